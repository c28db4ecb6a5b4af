set_option maxRecDepth 100000 in
set_option maxHeartbeats 4000000 in
theorem c_X4_takeNumber (l : Launch) (D : va_G) (aC : Nat → ClassId) (zs : Nat × Nat) (A : Nat → Prop) (nl : zNL) (ad : Nat → Nat → Nat → Nat) (σ : zM) (x1 : Int32) (x2 : Int32) (r : Int32) (σ' : zM)  (hf : f_X4_takeNumber σ x1 x2 = some (r, σ')) : Met l yX4_takeNumber (Cond.code yX4_takeNumber cX4_takeNumber 3 (some .boolean) :: wsL_law) ({ frames := 1, cells := 0, slots := 0, locals := 21 } : Room) (zP D aC zs zfX A nl ad σ [.ref (ad 4 0 0), .int x1, .int x2]) (zQ (some (.int r)) (fun t => zG D aC A nl ad σ' t t.heap ∧ (r = 0 ∨ r = 1)) A) 0 0 A := by
  refine Met.ofW (cc := cX4_takeNumber) (maxL := 3) (ret := (some .boolean)) (by decide) rfl ?_
  intro p e s m args below meth c s₁ B hml hv
  obtain ⟨rfl, hG, hZ⟩ := hv
  have hx := B.exec
  have hb := B.bytes
  have hr := B.returns
  have hts : ∀ w ∈ wsL_law, w.before ([.ref (ad 4 0 0), .int x1, .int x2] : List Value).toArray s = true := fun w h => (atoms_spec B.pre) w (List.mem_cons_of_mem _ h)
  have hown : s.vm.findClass RX4 = some m.cls := findClass_of_methodNamed B.named
  have hlocks := B.notSynchronized
  have S : zS p m c cX4_takeNumber 3 s ([.ref (ad 4 0 0), .int x1, .int x2] : List Value).toArray RX4 := ⟨hx, hb, hml, hown, hts⟩
  have hS : va_S A s.heap s.heap [] := va_S.rf
  have hl := lv_entry ([.ref (ad 4 0 0), .int x1, .int x2]) (n := 3) (Nat.le_of_ble_eq_true rfl)
  rw [lg_entry_eq]
  generalize (lg_sl ([.ref (ad 4 0 0), .int x1, .int x2]) ++ List.replicate (3 - (lg_sl ([.ref (ad 4 0 0), .int x1, .int x2])).length) Slot.unset).toArray = ls at hl ⊢
  have hl : lv_has ls 3 [(0, .ref (ad 4 0 0)), (1, .int x1), (2, .int x2)] := hl
  generalize hargs : ([.ref (ad 4 0 0), .int x1, .int x2] : List Value).toArray = args at S hts ⊢
  clear hargs
  have hK0 : ∀ (H : Heap) (locs : List Loc) (ls : Array Slot), zG D aC A nl ad σ s H → va_S A s.heap H locs → lv_has ls 3 [(0, .ref (ad 4 0 0)), (1, .int x1), (2, .int x2)] → f_X4_takeNumber σ x1 x2 = some (r, σ') → zWk p l e ({ frames := 1, cells := 0, slots := 0, locals := 21 } : Room) s m args below meth c A (some (.int r)) (fun t => zG D aC A nl ad σ' t t.heap ∧ (r = 0 ∨ r = 1)) H locs (F0 m 0 ls []) := by
    intro H locs ls hG hS hl hf
    unfold f_X4_takeNumber at hf
    refine lv_aload_n hx hb dX4_takeNumber_0 rfl (lv_at hl 0 rfl) ?_
    refine lv_iconst (v := 3) hx hb dX4_takeNumber_1 (by decide) ?_
    obtain ⟨r1, er1, hf⟩ := zbi hf
    refine z_callV (n := 1) (rest := []) (st1 := [.int r1]) (c0 := 4) (i0 := 0) (hZ.2.1 (4, 0) (by decide)) (by rfl) S hG hS hZ (fun _ _ h => h) (c_X4_isKind l D aC zs A nl ad σ 3 r1 er1) zw_357 zw_358 zw_359 zw_27 zw_360 (by decide +kernel) ⟨rfl, rfl⟩ ⟨(Nat.le_of_ble_eq_true rfl), (Nat.le_of_ble_eq_true rfl)⟩ hl.1 rfl (by rfl) (by rfl) (Nat.le_of_ble_eq_true rfl) dX4_takeNumber_2 ⟨Nat.zero_le _, Nat.zero_le _⟩ (fun H locs hz2 hG hS => ?_)
    refine lv_if_eq (tgt := 28) hx hb dX4_takeNumber_5 (by decide) (fun c3 => ?_) (fun c3 => ?_)
    · have hf := zif_p c3 hf
      refine lv_iconst (v := 0) hx hb dX4_takeNumber_28 (by decide) ?_
      obtain ⟨hq1, hq2⟩ := Prod.mk.inj (Option.some.inj hf)
      subst hq1
      subst hq2
      exact z_zret S hG hS hlocks (Or.inl rfl) hr dX4_takeNumber_29
    · have hf := zif_n c3 hf
      refine lv_aload_n hx hb dX4_takeNumber_8 rfl (lv_at hl 0 rfl) ?_
      obtain ⟨r4, er4, hf⟩ := zbi hf
      refine z_callV (n := 0) (rest := []) (st1 := [.long r4]) (c0 := 4) (i0 := 0) (hZ.2.1 (4, 0) (by decide)) (by rfl) S hG hS hZ (fun _ _ h => h) (c_X4_value l D aC zs A nl ad σ r4 er4) zw_374 zw_375 zw_376 zw_27 zw_377 (by decide +kernel) ⟨rfl, rfl⟩ ⟨(Nat.le_of_ble_eq_true rfl), (Nat.le_of_ble_eq_true rfl)⟩ hl.1 rfl (by rfl) (by rfl) (Nat.le_of_ble_eq_true rfl) dX4_takeNumber_9 ⟨Nat.zero_le _, Nat.zero_le _⟩ (fun H locs hz5 hG hS => ?_)
      refine lv_iload_n hx hb dX4_takeNumber_12 rfl (lv_at hl 1 rfl) ?_
      refine lv_i2l (v := x1.toInt64) hx hb dX4_takeNumber_13 rfl ?_
      refine W.lcmp hx hb dX4_takeNumber_14 ?_
      refine lv_if_lt (tgt := 28) hx hb dX4_takeNumber_15 (by decide) (fun c6 => ?_) (fun c6 => ?_)
      · have hf := zif_p ((lg_cmp_lt r4 x1.toInt64).mp c6) hf
        refine lv_iconst (v := 0) hx hb dX4_takeNumber_28 (by decide) ?_
        obtain ⟨hq1, hq2⟩ := Prod.mk.inj (Option.some.inj hf)
        subst hq1
        subst hq2
        exact z_zret S hG hS hlocks (Or.inl rfl) hr dX4_takeNumber_29
      · have hf := zif_n (fun h => c6 ((lg_cmp_lt r4 x1.toInt64).mpr h)) hf
        refine lv_aload_n hx hb dX4_takeNumber_18 rfl (lv_at hl 0 rfl) ?_
        obtain ⟨r7, er7, hf⟩ := zbi hf
        refine z_callV (n := 0) (rest := []) (st1 := [.long r7]) (c0 := 4) (i0 := 0) (hZ.2.1 (4, 0) (by decide)) (by rfl) S hG hS hZ (fun _ _ h => h) (c_X4_value l D aC zs A nl ad σ r7 er7) zw_374 zw_375 zw_376 zw_27 zw_377 (by decide +kernel) ⟨rfl, rfl⟩ ⟨(Nat.le_of_ble_eq_true rfl), (Nat.le_of_ble_eq_true rfl)⟩ hl.1 rfl (by rfl) (by rfl) (Nat.le_of_ble_eq_true rfl) dX4_takeNumber_19 ⟨Nat.zero_le _, Nat.zero_le _⟩ (fun H locs hz8 hG hS => ?_)
        refine lv_iload_n hx hb dX4_takeNumber_22 rfl (lv_at hl 2 rfl) ?_
        refine lv_i2l (v := x2.toInt64) hx hb dX4_takeNumber_23 rfl ?_
        refine W.lcmp hx hb dX4_takeNumber_24 ?_
        refine lv_if_le (tgt := 30) hx hb dX4_takeNumber_25 (by decide) (fun c9 => ?_) (fun c9 => ?_)
        · have hf := zif_p ((lg_cmp_le r7 x2.toInt64).mp c9) hf
          refine lv_aload_n hx hb dX4_takeNumber_30 rfl (lv_at hl 0 rfl) ?_
          refine lv_aload_n hx hb dX4_takeNumber_31 rfl (lv_at hl 0 rfl) ?_
          obtain ⟨r10, er10, hf⟩ := zbi hf
          refine z_callV (n := 0) (rest := [.ref (ad 4 0 0)]) (st1 := [.long r10, .ref (ad 4 0 0)]) (c0 := 4) (i0 := 0) (hZ.2.1 (4, 0) (by decide)) (by rfl) S hG hS hZ (fun _ _ h => h) (c_X4_value l D aC zs A nl ad σ r10 er10) zw_374 zw_375 zw_376 zw_27 zw_377 (by decide +kernel) ⟨rfl, rfl⟩ ⟨(Nat.le_of_ble_eq_true rfl), (Nat.le_of_ble_eq_true rfl)⟩ hl.1 rfl (by rfl) (by rfl) (Nat.le_of_ble_eq_true rfl) dX4_takeNumber_32 ⟨Nat.zero_le _, Nat.zero_le _⟩ (fun H locs hz11 hG hS => ?_)
          refine lv_l2i (v := r10.toInt32) hx hb dX4_takeNumber_35 rfl ?_
          refine z_putI (c0 := 4) (i0 := 0) (k0 := 9) (T := TX4) S hG hS tyX4 tyX4_ok nmX4 (hZ.2.1 (4, 0) (by decide)) rfl inlX4 (by decide) rfl rfl zw_119 (by decide +kernel) rfl dX4_takeNumber_36 (fun H locs hG hS => ?_)
          obtain ⟨σ12, eσ12, hf⟩ := zlt_s hf
          rw [← eσ12] at hG
          refine lv_aload_n hx hb dX4_takeNumber_39 rfl (lv_at hl 0 rfl) ?_
          refine lv_dup hx hb dX4_takeNumber_40 rfl ?_
          refine z_get (c0 := 4) (i0 := 0) (k0 := 8) (T := TX4) (v := .int (zI σ12 4 0 8)) S hG (hZ.2.1 (4, 0) (by decide)) rfl inlX4 (by decide) rfl zw_118 rfl dX4_takeNumber_41 ?_
          refine lv_iconst (v := 1) hx hb dX4_takeNumber_44 (by decide) ?_
          refine lv_iadd hx hb dX4_takeNumber_45 ?_
          refine z_putI (c0 := 4) (i0 := 0) (k0 := 8) (T := TX4) S hG hS tyX4 tyX4_ok nmX4 (hZ.2.1 (4, 0) (by decide)) rfl inlX4 (by decide) rfl rfl zw_118 (by decide +kernel) rfl dX4_takeNumber_46 (fun H locs hG hS => ?_)
          obtain ⟨σ13, eσ13, hf⟩ := zlt_s hf
          rw [← eσ13] at hG
          refine lv_iconst (v := 1) hx hb dX4_takeNumber_49 (by decide) ?_
          obtain ⟨hq1, hq2⟩ := Prod.mk.inj (Option.some.inj hf)
          subst hq1
          subst hq2
          exact z_zret S hG hS hlocks (Or.inr rfl) hr dX4_takeNumber_50
        · have hf := zif_n (fun h => c9 ((lg_cmp_le r7 x2.toInt64).mpr h)) hf
          refine lv_iconst (v := 0) hx hb dX4_takeNumber_28 (by decide) ?_
          obtain ⟨hq1, hq2⟩ := Prod.mk.inj (Option.some.inj hf)
          subst hq1
          subst hq2
          exact z_zret S hG hS hlocks (Or.inl rfl) hr dX4_takeNumber_29
  exact hK0 _ _ ls hG hS hl hf
set_option maxRecDepth 100000 in
set_option maxHeartbeats 4000000 in
theorem c_X4_takeSign (l : Launch) (D : va_G) (aC : Nat → ClassId) (zs : Nat × Nat) (A : Nat → Prop) (nl : zNL) (ad : Nat → Nat → Nat → Nat) (σ : zM) (x1 : Int32) (r : Int32) (σ' : zM)  (hf : f_X4_takeSign σ x1 = some (r, σ')) : Met l yX4_takeSign (Cond.code yX4_takeSign cX4_takeSign 3 (some .boolean) :: wsL_law) ({ frames := 1, cells := 0, slots := 0, locals := 22 } : Room) (zP D aC zs zfX A nl ad σ [.ref (ad 4 0 0), .int x1]) (zQ (some (.int r)) (fun t => zG D aC A nl ad σ' t t.heap ∧ (r = 0 ∨ r = 1)) A) 0 0 A := by
  refine Met.ofW (cc := cX4_takeSign) (maxL := 3) (ret := (some .boolean)) (by decide) rfl ?_
  intro p e s m args below meth c s₁ B hml hv
  obtain ⟨rfl, hG, hZ⟩ := hv
  have hx := B.exec
  have hb := B.bytes
  have hr := B.returns
  have hts : ∀ w ∈ wsL_law, w.before ([.ref (ad 4 0 0), .int x1] : List Value).toArray s = true := fun w h => (atoms_spec B.pre) w (List.mem_cons_of_mem _ h)
  have hown : s.vm.findClass RX4 = some m.cls := findClass_of_methodNamed B.named
  have hlocks := B.notSynchronized
  have S : zS p m c cX4_takeSign 3 s ([.ref (ad 4 0 0), .int x1] : List Value).toArray RX4 := ⟨hx, hb, hml, hown, hts⟩
  have hS : va_S A s.heap s.heap [] := va_S.rf
  have hl := lv_entry ([.ref (ad 4 0 0), .int x1]) (n := 3) (Nat.le_of_ble_eq_true rfl)
  rw [lg_entry_eq]
  generalize (lg_sl ([.ref (ad 4 0 0), .int x1]) ++ List.replicate (3 - (lg_sl ([.ref (ad 4 0 0), .int x1])).length) Slot.unset).toArray = ls at hl ⊢
  have hl : lv_has ls 3 [(0, .ref (ad 4 0 0)), (1, .int x1)] := hl
  generalize hargs : ([.ref (ad 4 0 0), .int x1] : List Value).toArray = args at S hts ⊢
  clear hargs
  have hK0 : ∀ (H : Heap) (locs : List Loc) (ls : Array Slot), zG D aC A nl ad σ s H → va_S A s.heap H locs → lv_has ls 3 [(0, .ref (ad 4 0 0)), (1, .int x1)] → f_X4_takeSign σ x1 = some (r, σ') → zWk p l e ({ frames := 1, cells := 0, slots := 0, locals := 22 } : Room) s m args below meth c A (some (.int r)) (fun t => zG D aC A nl ad σ' t t.heap ∧ (r = 0 ∨ r = 1)) H locs (F0 m 0 ls []) := by
    intro H locs ls hG hS hl hf
    unfold f_X4_takeSign at hf
    refine lv_aload_n hx hb dX4_takeSign_0 rfl (lv_at hl 0 rfl) ?_
    refine lv_iconst (v := 4) hx hb dX4_takeSign_1 (by decide) ?_
    refine lv_iload_n hx hb dX4_takeSign_2 rfl (lv_at hl 1 rfl) ?_
    obtain ⟨r1, er1, hf⟩ := zbi hf
    refine z_callV (n := 2) (rest := []) (st1 := [.int r1]) (c0 := 4) (i0 := 0) (hZ.2.1 (4, 0) (by decide)) (by rfl) S hG hS hZ (fun _ _ h => h) (c_X4_isToken l D aC zs A nl ad σ 4 x1 r1 er1) zw_399 zw_400 zw_401 zw_27 zw_402 (by decide +kernel) ⟨rfl, rfl⟩ ⟨(Nat.le_of_ble_eq_true rfl), (Nat.le_of_ble_eq_true rfl)⟩ hl.1 rfl (by rfl) (by rfl) (Nat.le_of_ble_eq_true rfl) dX4_takeSign_3 ⟨Nat.zero_le _, Nat.zero_le _⟩ (fun H locs hz2 hG hS => ?_)
    refine lv_istore_n (lv' := [(2, .int r1), (0, .ref (ad 4 0 0)), (1, .int x1)]) hx hb dX4_takeSign_6 rfl hl (by decide) rfl (fun ls hl => ?_)
    refine lv_aload_n hx hb dX4_takeSign_7 rfl (lv_at hl 1 rfl) ?_
    refine lv_dup hx hb dX4_takeSign_8 rfl ?_
    refine z_get (c0 := 4) (i0 := 0) (k0 := 8) (T := TX4) (v := .int (zI σ 4 0 8)) S hG (hZ.2.1 (4, 0) (by decide)) rfl inlX4 (by decide) rfl zw_118 rfl dX4_takeSign_9 ?_
    refine lv_iload_n hx hb dX4_takeSign_12 rfl (lv_at hl 0 rfl) ?_
    have Kv5 : ∀ (v5 : Int32) (ls : Array Slot), lv_has ls 3 [(2, .int r1), (0, .ref (ad 4 0 0)), (1, .int x1)] → (zlt (zsI σ 4 0 8 ((zI σ 4 0 8) + v5)) fun σ7 => some (r1, σ7)) = some (r, σ') → zWk p l e ({ frames := 1, cells := 0, slots := 0, locals := 22 } : Room) s m args below meth c A (some (.int r)) (fun t => zG D aC A nl ad σ' t t.heap ∧ (r = 0 ∨ r = 1)) H locs (F0 m 21 ls [.int v5, .int (zI σ 4 0 8), .ref (ad 4 0 0)]) := by
      intro v5 ls hl hf
      refine lv_iadd hx hb dX4_takeSign_21 ?_
      refine z_putI (c0 := 4) (i0 := 0) (k0 := 8) (T := TX4) S hG hS tyX4 tyX4_ok nmX4 (hZ.2.1 (4, 0) (by decide)) rfl inlX4 (by decide) rfl rfl zw_118 (by decide +kernel) rfl dX4_takeSign_22 (fun H locs hG hS => ?_)
      obtain ⟨σ7, eσ7, hf⟩ := zlt_s hf
      rw [← eσ7] at hG
      refine lv_iload_n hx hb dX4_takeSign_25 rfl (lv_at hl 0 rfl) ?_
      obtain ⟨hq1, hq2⟩ := Prod.mk.inj (Option.some.inj hf)
      subst hq1
      subst hq2
      exact z_zret S hG hS hlocks hz2 hr dX4_takeSign_26
    refine lv_if_eq (tgt := 20) hx hb dX4_takeSign_13 (by decide) (fun c4 => ?_) (fun c4 => ?_)
    · rw [if_pos c4] at hf
      refine lv_iconst (v := 0) hx hb dX4_takeSign_20 (by decide) ?_
      exact Kv5 _ ls hl hf
    · rw [if_neg c4] at hf
      refine lv_iconst (v := 1) hx hb dX4_takeSign_16 (by decide) ?_
      refine lv_goto (tgt := 21) hx hb dX4_takeSign_17 (by decide) ?_
      exact Kv5 _ ls hl hf
  exact hK0 _ _ ls hG hS hl hf
set_option maxRecDepth 100000 in
set_option maxHeartbeats 4000000 in
theorem c_X4_endOf (l : Launch) (D : va_G) (aC : Nat → ClassId) (zs : Nat × Nat) (A : Nat → Prop) (nl : zNL) (ad : Nat → Nat → Nat → Nat) (σ : zM) (x1 : Int32) (x2 : Int32) (x3 : Int32) (x4 : Int32) (r : Int32) (σ' : zM)  (hf : f_X4_endOf σ x1 x2 x3 x4 = some (r, σ')) : Met l yX4_endOf (Cond.code yX4_endOf cX4_endOf 5 (some .boolean) :: wsL_law) ({ frames := 2, cells := 0, slots := 0, locals := 44 } : Room) (zP D aC zs zfX A nl ad σ [.ref (ad 4 0 0), .int x1, .int x2, .int x3, .int x4]) (zQ (some (.int r)) (fun t => zG D aC A nl ad σ' t t.heap ∧ (r = 0 ∨ r = 1)) A) 0 0 A := by
  refine Met.ofW (cc := cX4_endOf) (maxL := 5) (ret := (some .boolean)) (by decide) rfl ?_
  intro p e s m args below meth c s₁ B hml hv
  obtain ⟨rfl, hG, hZ⟩ := hv
  have hx := B.exec
  have hb := B.bytes
  have hr := B.returns
  have hts : ∀ w ∈ wsL_law, w.before ([.ref (ad 4 0 0), .int x1, .int x2, .int x3, .int x4] : List Value).toArray s = true := fun w h => (atoms_spec B.pre) w (List.mem_cons_of_mem _ h)
  have hown : s.vm.findClass RX4 = some m.cls := findClass_of_methodNamed B.named
  have hlocks := B.notSynchronized
  have S : zS p m c cX4_endOf 5 s ([.ref (ad 4 0 0), .int x1, .int x2, .int x3, .int x4] : List Value).toArray RX4 := ⟨hx, hb, hml, hown, hts⟩
  have hS : va_S A s.heap s.heap [] := va_S.rf
  have hl := lv_entry ([.ref (ad 4 0 0), .int x1, .int x2, .int x3, .int x4]) (n := 5) (Nat.le_of_ble_eq_true rfl)
  rw [lg_entry_eq]
  generalize (lg_sl ([.ref (ad 4 0 0), .int x1, .int x2, .int x3, .int x4]) ++ List.replicate (5 - (lg_sl ([.ref (ad 4 0 0), .int x1, .int x2, .int x3, .int x4])).length) Slot.unset).toArray = ls at hl ⊢
  have hl : lv_has ls 5 [(0, .ref (ad 4 0 0)), (1, .int x1), (2, .int x2), (3, .int x3), (4, .int x4)] := hl
  generalize hargs : ([.ref (ad 4 0 0), .int x1, .int x2, .int x3, .int x4] : List Value).toArray = args at S hts ⊢
  clear hargs
  have hK0 : ∀ (H : Heap) (locs : List Loc) (ls : Array Slot), zG D aC A nl ad σ s H → va_S A s.heap H locs → lv_has ls 5 [(0, .ref (ad 4 0 0)), (1, .int x1), (2, .int x2), (3, .int x3), (4, .int x4)] → f_X4_endOf σ x1 x2 x3 x4 = some (r, σ') → zWk p l e ({ frames := 2, cells := 0, slots := 0, locals := 44 } : Room) s m args below meth c A (some (.int r)) (fun t => zG D aC A nl ad σ' t t.heap ∧ (r = 0 ∨ r = 1)) H locs (F0 m 0 ls []) := by
    intro H locs ls hG hS hl hf
    unfold f_X4_endOf at hf
    refine lv_aload_n hx hb dX4_endOf_0 rfl (lv_at hl 0 rfl) ?_
    refine lv_bipush (v := 59) hx hb dX4_endOf_1 (by decide) ?_
    obtain ⟨q1, eq1, hf⟩ := zbi hf
    refine z_callV (n := 1) (rest := []) (st1 := [.int q1.1]) (c0 := 4) (i0 := 0) (hZ.2.1 (4, 0) (by decide)) (by rfl) S hG hS hZ (fun _ _ h => h) (c_X4_takeSign l D aC zs A nl ad σ 59 q1.1 q1.2 eq1) zw_411 zw_412 zw_413 zw_27 zw_414 (by decide +kernel) ⟨rfl, rfl⟩ ⟨(Nat.le_of_ble_eq_true rfl), (Nat.le_of_ble_eq_true rfl)⟩ hl.1 rfl (by rfl) (by rfl) (Nat.le_of_ble_eq_true rfl) dX4_endOf_3 ⟨Nat.zero_le _, Nat.zero_le _⟩ (fun H locs hz2 hG hS => ?_)
    refine lv_if_ne (tgt := 11) hx hb dX4_endOf_6 (by decide) (fun c3 => ?_) (fun c3 => ?_)
    · have hf := zif_n c3 hf
      refine lv_aload_n hx hb dX4_endOf_11 rfl (lv_at hl 0 rfl) ?_
      refine z_get (c0 := 4) (i0 := 0) (k0 := 7) (T := TX4) (v := va_rf (Option.map (fun j => ad 0 j 0) (zR q1.2 4 0 7))) S hG (hZ.2.1 (4, 0) (by decide)) rfl inlX4 (by decide) rfl zw_117 rfl dX4_endOf_12 ?_
      rcases hE5 : (zR q1.2 4 0 7) with _ | j4
      · have hf := znu_n0 hE5 hf
        refine W.eq (g2 := F0 m 15 ls [.null]) (by first | rfl | (rw [hE5]; rfl)) ?_
        refine lv_iload_n hx hb dX4_endOf_15 rfl (lv_at hl 1 rfl) ?_
        refine lv_iload_n hx hb dX4_endOf_16 rfl (lv_at hl 2 rfl) ?_
        refine lv_iload_n hx hb dX4_endOf_17 rfl (lv_at hl 3 rfl) ?_
        refine lv_iload hx hb dX4_endOf_18 (lv_at hl 4 rfl) ?_
        cases hf
      · have hf := znu_s0 hE5 hf
        refine W.eq (g2 := F0 m 15 ls [.ref (ad 0 j4 0)]) (by first | rfl | (rw [hE5]; rfl)) ?_
        refine lv_iload_n hx hb dX4_endOf_15 rfl (lv_at hl 1 rfl) ?_
        refine lv_iload_n hx hb dX4_endOf_16 rfl (lv_at hl 2 rfl) ?_
        refine lv_iload_n hx hb dX4_endOf_17 rfl (lv_at hl 3 rfl) ?_
        refine lv_iload hx hb dX4_endOf_18 (lv_at hl 4 rfl) ?_
        obtain ⟨σ6, eσ6, hf⟩ := zbi hf
        refine z_callV (n := 4) (rest := []) (st1 := []) (c0 := 0) (i0 := j4) ((fun j h => hG.2.2.2.1 4 0 7 j rfl h) j4 hE5) (by rfl) S hG hS hZ (fun _ _ h => h) (c_X0_add l D aC zs A nl ad q1.2 j4 x1 x2 x3 x4 σ6 ((fun j h => hG.2.2.2.1 4 0 7 j rfl h) j4 hE5) eσ6) zw_415 zw_416 zw_417 zw_76 zw_418 (by decide +kernel) ⟨rfl, rfl⟩ ⟨(Nat.le_of_ble_eq_true rfl), (Nat.le_of_ble_eq_true rfl)⟩ hl.1 rfl (by rfl) (by rfl) (Nat.le_of_ble_eq_true rfl) dX4_endOf_20 ⟨Nat.zero_le _, Nat.zero_le _⟩ (fun H locs hz7 hG hS => ?_)
        refine lv_iconst (v := 1) hx hb dX4_endOf_23 (by decide) ?_
        obtain ⟨hq1, hq2⟩ := Prod.mk.inj (Option.some.inj hf)
        subst hq1
        subst hq2
        exact z_zret S hG hS hlocks (Or.inr rfl) hr dX4_endOf_24
    · have hf := zif_p c3 hf
      refine lv_iconst (v := 0) hx hb dX4_endOf_9 (by decide) ?_
      obtain ⟨hq1, hq2⟩ := Prod.mk.inj (Option.some.inj hf)
      subst hq1
      subst hq2
      exact z_zret S hG hS hlocks (Or.inl rfl) hr dX4_endOf_10
  exact hK0 _ _ ls hG hS hl hf
set_option maxRecDepth 100000 in
set_option maxHeartbeats 4000000 in
theorem c_X4_roomText (l : Launch) (D : va_G) (aC : Nat → ClassId) (zs : Nat × Nat) (A : Nat → Prop) (nl : zNL) (ad : Nat → Nat → Nat → Nat) (σ : zM)  (r : Int32) (σ' : zM)  (hf : f_X4_roomText σ = some (r, σ')) : Met l yX4_roomText (Cond.code yX4_roomText cX4_roomText 4 (some .boolean) :: wsL_law) ({ frames := 3, cells := 0, slots := 0, locals := 68 } : Room) (zP D aC zs zfX A nl ad σ [.ref (ad 4 0 0)]) (zQ (some (.int r)) (fun t => zG D aC A nl ad σ' t t.heap ∧ (r = 0 ∨ r = 1)) A) 0 0 A := by
  refine Met.ofW (cc := cX4_roomText) (maxL := 4) (ret := (some .boolean)) (by decide) rfl ?_
  intro p e s m args below meth c s₁ B hml hv
  obtain ⟨rfl, hG, hZ⟩ := hv
  have hx := B.exec
  have hb := B.bytes
  have hr := B.returns
  have hts : ∀ w ∈ wsL_law, w.before ([.ref (ad 4 0 0)] : List Value).toArray s = true := fun w h => (atoms_spec B.pre) w (List.mem_cons_of_mem _ h)
  have hown : s.vm.findClass RX4 = some m.cls := findClass_of_methodNamed B.named
  have hlocks := B.notSynchronized
  have S : zS p m c cX4_roomText 4 s ([.ref (ad 4 0 0)] : List Value).toArray RX4 := ⟨hx, hb, hml, hown, hts⟩
  have hS : va_S A s.heap s.heap [] := va_S.rf
  have hl := lv_entry ([.ref (ad 4 0 0)]) (n := 4) (Nat.le_of_ble_eq_true rfl)
  rw [lg_entry_eq]
  generalize (lg_sl ([.ref (ad 4 0 0)]) ++ List.replicate (4 - (lg_sl ([.ref (ad 4 0 0)])).length) Slot.unset).toArray = ls at hl ⊢
  have hl : lv_has ls 4 [(0, .ref (ad 4 0 0))] := hl
  generalize hargs : ([.ref (ad 4 0 0)] : List Value).toArray = args at S hts ⊢
  clear hargs
  have KJ78 : ∀ (y1b78 : Int32) (y2b78 : Int32) (y3b78 : Int32)  (σb78 : zM) (H : Heap) (locs : List Loc) (ls : Array Slot), zG D aC A nl ad σb78 s H → va_S A s.heap H locs → lv_has ls 4 [(0, .ref (ad 4 0 0)), (1, .int y1b78), (2, .int y2b78), (3, .int y3b78)] → (f_X4_roomText_B78 σb78 y1b78 y2b78 y3b78) = some (r, σ') → zWk p l e ({ frames := 3, cells := 0, slots := 0, locals := 68 } : Room) s m args below meth c A (some (.int r)) (fun t => zG D aC A nl ad σ' t t.heap ∧ (r = 0 ∨ r = 1)) H locs (F0 m 78 ls []) := by
    intro y1b78 y2b78 y3b78  σb78 H locs ls hG hS hl hf
    unfold f_X4_roomText_B78 at hf
    refine lv_aload_n hx hb dX4_roomText_78 rfl (lv_at hl 0 rfl) ?_
    refine lv_iconst (v := 0) hx hb dX4_roomText_79 (by decide) ?_
    refine lv_iload_n hx hb dX4_roomText_80 rfl (lv_at hl 1 rfl) ?_
    refine lv_iload_n hx hb dX4_roomText_81 rfl (lv_at hl 2 rfl) ?_
    refine lv_iload_n hx hb dX4_roomText_82 rfl (lv_at hl 3 rfl) ?_
    obtain ⟨q14, eq14, hf⟩ := zbi hf
    refine z_callV (n := 4) (rest := []) (st1 := [.int q14.1]) (c0 := 4) (i0 := 0) (hZ.2.1 (4, 0) (by decide)) (by rfl) S hG hS hZ (fun _ _ h => h) (c_X4_endOf l D aC zs A nl ad σb78 0 y1b78 y2b78 y3b78 q14.1 q14.2 eq14) zw_407 zw_408 zw_409 zw_27 zw_410 (by decide +kernel) ⟨rfl, rfl⟩ ⟨(Nat.le_of_ble_eq_true rfl), (Nat.le_of_ble_eq_true rfl)⟩ hl.1 rfl (by rfl) (by rfl) (Nat.le_of_ble_eq_true rfl) dX4_roomText_83 ⟨Nat.zero_le _, Nat.zero_le _⟩ (fun H locs hz15 hG hS => ?_)
    obtain ⟨hq1, hq2⟩ := Prod.mk.inj (Option.some.inj hf)
    subst hq1
    subst hq2
    exact z_zret S hG hS hlocks hz15 hr dX4_roomText_86
  have hK0 : ∀ (H : Heap) (locs : List Loc) (ls : Array Slot), zG D aC A nl ad σ s H → va_S A s.heap H locs → lv_has ls 4 [(0, .ref (ad 4 0 0))] → f_X4_roomText σ = some (r, σ') → zWk p l e ({ frames := 3, cells := 0, slots := 0, locals := 68 } : Room) s m args below meth c A (some (.int r)) (fun t => zG D aC A nl ad σ' t t.heap ∧ (r = 0 ∨ r = 1)) H locs (F0 m 0 ls []) := by
    intro H locs ls hG hS hl hf
    unfold f_X4_roomText at hf
    refine lv_aload_n hx hb dX4_roomText_0 rfl (lv_at hl 0 rfl) ?_
    refine lv_dup hx hb dX4_roomText_1 rfl ?_
    refine z_get (c0 := 4) (i0 := 0) (k0 := 8) (T := TX4) (v := .int (zI σ 4 0 8)) S hG (hZ.2.1 (4, 0) (by decide)) rfl inlX4 (by decide) rfl zw_118 rfl dX4_roomText_2 ?_
    refine lv_iconst (v := 1) hx hb dX4_roomText_5 (by decide) ?_
    refine lv_iadd hx hb dX4_roomText_6 ?_
    refine z_putI (c0 := 4) (i0 := 0) (k0 := 8) (T := TX4) S hG hS tyX4 tyX4_ok nmX4 (hZ.2.1 (4, 0) (by decide)) rfl inlX4 (by decide) rfl rfl zw_118 (by decide +kernel) rfl dX4_roomText_7 (fun H locs hG hS => ?_)
    obtain ⟨σ1, eσ1, hf⟩ := zlt_s hf
    rw [← eσ1] at hG
    refine lv_aload_n hx hb dX4_roomText_10 rfl (lv_at hl 0 rfl) ?_
    obtain ⟨q2, eq2, hf⟩ := zbi hf
    refine z_callV (n := 0) (rest := []) (st1 := [.int q2.1]) (c0 := 4) (i0 := 0) (hZ.2.1 (4, 0) (by decide)) (by rfl) S hG hS hZ (fun _ _ h => h) (c_X4_takeNewName l D aC zs A nl ad σ1 q2.1 q2.2 eq2) zw_383 zw_384 zw_385 zw_27 zw_386 (by decide +kernel) ⟨rfl, rfl⟩ ⟨(Nat.le_of_ble_eq_true rfl), (Nat.le_of_ble_eq_true rfl)⟩ hl.1 rfl (by rfl) (by rfl) (Nat.le_of_ble_eq_true rfl) dX4_roomText_11 ⟨Nat.zero_le _, Nat.zero_le _⟩ (fun H locs hz3 hG hS => ?_)
    refine lv_if_ne (tgt := 19) hx hb dX4_roomText_14 (by decide) (fun c4 => ?_) (fun c4 => ?_)
    · have hf := zif_n c4 hf
      refine lv_aload_n hx hb dX4_roomText_19 rfl (lv_at hl 0 rfl) ?_
      refine z_get (c0 := 4) (i0 := 0) (k0 := 9) (T := TX4) (v := .int (zI q2.2 4 0 9)) S hG (hZ.2.1 (4, 0) (by decide)) rfl inlX4 (by decide) rfl zw_119 rfl dX4_roomText_20 ?_
      refine lv_istore_n (lv' := [(1, .int (zI q2.2 4 0 9)), (0, .ref (ad 4 0 0))]) hx hb dX4_roomText_23 rfl hl (by decide) rfl (fun ls hl => ?_)
      refine lv_aload_n hx hb dX4_roomText_24 rfl (lv_at hl 1 rfl) ?_
      refine lv_bipush (v := 14) hx hb dX4_roomText_25 (by decide) ?_
      obtain ⟨q5, eq5, hf⟩ := zbi hf
      refine z_callV (n := 1) (rest := []) (st1 := [.int q5.1]) (c0 := 4) (i0 := 0) (hZ.2.1 (4, 0) (by decide)) (by rfl) S hG hS hZ (fun _ _ h => h) (c_X4_takeWord l D aC zs A nl ad q2.2 14 q5.1 q5.2 eq5) zw_395 zw_396 zw_397 zw_27 zw_398 (by decide +kernel) ⟨rfl, rfl⟩ ⟨(Nat.le_of_ble_eq_true rfl), (Nat.le_of_ble_eq_true rfl)⟩ hl.1 rfl (by rfl) (by rfl) (Nat.le_of_ble_eq_true rfl) dX4_roomText_27 ⟨Nat.zero_le _, Nat.zero_le _⟩ (fun H locs hz6 hG hS => ?_)
      refine lv_if_eq (tgt := 43) hx hb dX4_roomText_30 (by decide) (fun c7 => ?_) (fun c7 => ?_)
      · have hf := zif_p c7 hf
        refine lv_iconst (v := 0) hx hb dX4_roomText_43 (by decide) ?_
        obtain ⟨hq1, hq2⟩ := Prod.mk.inj (Option.some.inj hf)
        subst hq1
        subst hq2
        exact z_zret S hG hS hlocks (Or.inl rfl) hr dX4_roomText_44
      · have hf := zif_n c7 hf
        refine lv_aload_n hx hb dX4_roomText_33 rfl (lv_at hl 1 rfl) ?_
        refine lv_iconst (v := 0) hx hb dX4_roomText_34 (by decide) ?_
        refine lv_ldc (v := 999999) hx hb hown (hts _ zw_369) dX4_roomText_35 ?_
        obtain ⟨q8, eq8, hf⟩ := zbi hf
        refine z_callV (n := 2) (rest := []) (st1 := [.int q8.1]) (c0 := 4) (i0 := 0) (hZ.2.1 (4, 0) (by decide)) (by rfl) S hG hS hZ (fun _ _ h => h) (c_X4_takeNumber l D aC zs A nl ad q5.2 0 999999 q8.1 q8.2 eq8) zw_403 zw_404 zw_405 zw_27 zw_406 (by decide +kernel) ⟨rfl, rfl⟩ ⟨(Nat.le_of_ble_eq_true rfl), (Nat.le_of_ble_eq_true rfl)⟩ hl.1 rfl (by rfl) (by rfl) (Nat.le_of_ble_eq_true rfl) dX4_roomText_37 ⟨Nat.zero_le _, Nat.zero_le _⟩ (fun H locs hz9 hG hS => ?_)
        refine lv_if_ne (tgt := 45) hx hb dX4_roomText_40 (by decide) (fun c10 => ?_) (fun c10 => ?_)
        · have hf := zif_n c10 hf
          refine lv_aload_n hx hb dX4_roomText_45 rfl (lv_at hl 1 rfl) ?_
          refine z_get (c0 := 4) (i0 := 0) (k0 := 9) (T := TX4) (v := .int (zI q8.2 4 0 9)) S hG (hZ.2.1 (4, 0) (by decide)) rfl inlX4 (by decide) rfl zw_119 rfl dX4_roomText_46 ?_
          refine lv_istore_n (lv' := [(2, .int (zI q8.2 4 0 9)), (1, .int (zI q2.2 4 0 9)), (0, .ref (ad 4 0 0))]) hx hb dX4_roomText_49 rfl hl (by decide) rfl (fun ls hl => ?_)
          refine lv_iconst (v := 0) hx hb dX4_roomText_50 (by decide) ?_
          refine lv_istore_n (lv' := [(3, .int 0), (2, .int (zI q8.2 4 0 9)), (1, .int (zI q2.2 4 0 9)), (0, .ref (ad 4 0 0))]) hx hb dX4_roomText_51 rfl hl (by decide) rfl (fun ls hl => ?_)
          refine lv_aload_n hx hb dX4_roomText_52 rfl (lv_at hl 3 rfl) ?_
          refine lv_bipush (v := 15) hx hb dX4_roomText_53 (by decide) ?_
          obtain ⟨q11, eq11, hf⟩ := zbi hf
          refine z_callV (n := 1) (rest := []) (st1 := [.int q11.1]) (c0 := 4) (i0 := 0) (hZ.2.1 (4, 0) (by decide)) (by rfl) S hG hS hZ (fun _ _ h => h) (c_X4_takeWord l D aC zs A nl ad q8.2 15 q11.1 q11.2 eq11) zw_395 zw_396 zw_397 zw_27 zw_398 (by decide +kernel) ⟨rfl, rfl⟩ ⟨(Nat.le_of_ble_eq_true rfl), (Nat.le_of_ble_eq_true rfl)⟩ hl.1 rfl (by rfl) (by rfl) (Nat.le_of_ble_eq_true rfl) dX4_roomText_55 ⟨Nat.zero_le _, Nat.zero_le _⟩ (fun H locs hz12 hG hS => ?_)
          refine lv_if_eq (tgt := 78) hx hb dX4_roomText_58 (by decide) (fun c13 => ?_) (fun c13 => ?_)
          · have hf := zif_p c13 hf
            exact KJ78 (zI q2.2 4 0 9) (zI q8.2 4 0 9) 0 q11.2 H locs ls hG hS (lv_sub hl [3, 2, 1, 0] rfl) hf
          · have hf := zif_n c13 hf
            refine lv_aload_n hx hb dX4_roomText_61 rfl (lv_at hl 3 rfl) ?_
            refine lv_iconst (v := 0) hx hb dX4_roomText_62 (by decide) ?_
            refine lv_ldc (v := 999999) hx hb hown (hts _ zw_369) dX4_roomText_63 ?_
            obtain ⟨q16, eq16, hf⟩ := zbi hf
            refine z_callV (n := 2) (rest := []) (st1 := [.int q16.1]) (c0 := 4) (i0 := 0) (hZ.2.1 (4, 0) (by decide)) (by rfl) S hG hS hZ (fun _ _ h => h) (c_X4_takeNumber l D aC zs A nl ad q11.2 0 999999 q16.1 q16.2 eq16) zw_403 zw_404 zw_405 zw_27 zw_406 (by decide +kernel) ⟨rfl, rfl⟩ ⟨(Nat.le_of_ble_eq_true rfl), (Nat.le_of_ble_eq_true rfl)⟩ hl.1 rfl (by rfl) (by rfl) (Nat.le_of_ble_eq_true rfl) dX4_roomText_65 ⟨Nat.zero_le _, Nat.zero_le _⟩ (fun H locs hz17 hG hS => ?_)
            refine lv_if_ne (tgt := 73) hx hb dX4_roomText_68 (by decide) (fun c18 => ?_) (fun c18 => ?_)
            · have hf := zif_n c18 hf
              refine lv_aload_n hx hb dX4_roomText_73 rfl (lv_at hl 3 rfl) ?_
              refine z_get (c0 := 4) (i0 := 0) (k0 := 9) (T := TX4) (v := .int (zI q16.2 4 0 9)) S hG (hZ.2.1 (4, 0) (by decide)) rfl inlX4 (by decide) rfl zw_119 rfl dX4_roomText_74 ?_
              refine lv_istore_n (lv' := [(3, .int (zI q16.2 4 0 9)), (2, .int (zI q8.2 4 0 9)), (1, .int (zI q2.2 4 0 9)), (0, .ref (ad 4 0 0))]) hx hb dX4_roomText_77 rfl hl (by decide) rfl (fun ls hl => ?_)
              exact KJ78 (zI q2.2 4 0 9) (zI q8.2 4 0 9) (zI q16.2 4 0 9) q16.2 H locs ls hG hS (lv_sub hl [3, 2, 1, 0] rfl) hf
            · have hf := zif_p c18 hf
              refine lv_iconst (v := 0) hx hb dX4_roomText_71 (by decide) ?_
              obtain ⟨hq1, hq2⟩ := Prod.mk.inj (Option.some.inj hf)
              subst hq1
              subst hq2
              exact z_zret S hG hS hlocks (Or.inl rfl) hr dX4_roomText_72
        · have hf := zif_p c10 hf
          refine lv_iconst (v := 0) hx hb dX4_roomText_43 (by decide) ?_
          obtain ⟨hq1, hq2⟩ := Prod.mk.inj (Option.some.inj hf)
          subst hq1
          subst hq2
          exact z_zret S hG hS hlocks (Or.inl rfl) hr dX4_roomText_44
    · have hf := zif_p c4 hf
      refine lv_iconst (v := 0) hx hb dX4_roomText_17 (by decide) ?_
      obtain ⟨hq1, hq2⟩ := Prod.mk.inj (Option.some.inj hf)
      subst hq1
      subst hq2
      exact z_zret S hG hS hlocks (Or.inl rfl) hr dX4_roomText_18
  exact hK0 _ _ ls hG hS hl hf
set_option maxRecDepth 100000 in
set_option maxHeartbeats 4000000 in
theorem c_X4_takeToldName (l : Launch) (D : va_G) (aC : Nat → ClassId) (zs : Nat × Nat) (A : Nat → Prop) (nl : zNL) (ad : Nat → Nat → Nat → Nat) (σ : zM)  (r : Int32) (σ' : zM)  (hf : f_X4_takeToldName σ = some (r, σ')) : Met l yX4_takeToldName (Cond.code yX4_takeToldName cX4_takeToldName 2 (some .boolean) :: wsL_law) ({ frames := 1, cells := 0, slots := 0, locals := 23 } : Room) (zP D aC zs zfX A nl ad σ [.ref (ad 4 0 0)]) (zQ (some (.int r)) (fun t => zG D aC A nl ad σ' t t.heap ∧ (r = 0 ∨ r = 1)) A) 0 0 A := by
  refine Met.ofW (cc := cX4_takeToldName) (maxL := 2) (ret := (some .boolean)) (by decide) rfl ?_
  intro p e s m args below meth c s₁ B hml hv
  obtain ⟨rfl, hG, hZ⟩ := hv
  have hx := B.exec
  have hb := B.bytes
  have hr := B.returns
  have hts : ∀ w ∈ wsL_law, w.before ([.ref (ad 4 0 0)] : List Value).toArray s = true := fun w h => (atoms_spec B.pre) w (List.mem_cons_of_mem _ h)
  have hown : s.vm.findClass RX4 = some m.cls := findClass_of_methodNamed B.named
  have hlocks := B.notSynchronized
  have S : zS p m c cX4_takeToldName 2 s ([.ref (ad 4 0 0)] : List Value).toArray RX4 := ⟨hx, hb, hml, hown, hts⟩
  have hS : va_S A s.heap s.heap [] := va_S.rf
  have hl := lv_entry ([.ref (ad 4 0 0)]) (n := 2) (Nat.le_of_ble_eq_true rfl)
  rw [lg_entry_eq]
  generalize (lg_sl ([.ref (ad 4 0 0)]) ++ List.replicate (2 - (lg_sl ([.ref (ad 4 0 0)])).length) Slot.unset).toArray = ls at hl ⊢
  have hl : lv_has ls 2 [(0, .ref (ad 4 0 0))] := hl
  generalize hargs : ([.ref (ad 4 0 0)] : List Value).toArray = args at S hts ⊢
  clear hargs
  have KJ23 : ∀ (t0b23 : Int32)  (σb23 : zM) (H : Heap) (locs : List Loc) (ls : Array Slot), zG D aC A nl ad σb23 s H → va_S A s.heap H locs → lv_has ls 2 [(0, .ref (ad 4 0 0))] → (f_X4_takeToldName_B23 σb23 t0b23) = some (r, σ') → zWk p l e ({ frames := 1, cells := 0, slots := 0, locals := 23 } : Room) s m args below meth c A (some (.int r)) (fun t => zG D aC A nl ad σ' t t.heap ∧ (r = 0 ∨ r = 1)) H locs (F0 m 23 ls [.int t0b23]) := by
    intro t0b23  σb23 H locs ls hG hS hl hf
    unfold f_X4_takeToldName_B23 at hf
    refine lv_istore_n (lv' := [(1, .int t0b23), (0, .ref (ad 4 0 0))]) hx hb dX4_takeToldName_23 rfl hl (by decide) rfl (fun ls hl => ?_)
    refine lv_iload_n hx hb dX4_takeToldName_24 rfl (lv_at hl 0 rfl) ?_
    refine lv_iconst (v := 1) hx hb dX4_takeToldName_25 (by decide) ?_
    refine lv_icmp_lt (tgt := 47) hx hb dX4_takeToldName_26 (by decide) (fun c4 => ?_) (fun c4 => ?_)
    · have hf := zif_p c4 hf
      refine lv_iconst (v := 0) hx hb dX4_takeToldName_47 (by decide) ?_
      obtain ⟨hq1, hq2⟩ := Prod.mk.inj (Option.some.inj hf)
      subst hq1
      subst hq2
      exact z_zret S hG hS hlocks (Or.inl rfl) hr dX4_takeToldName_48
    · have hf := zif_n c4 hf
      refine lv_iload_n hx hb dX4_takeToldName_29 rfl (lv_at hl 0 rfl) ?_
      refine lv_aload_n hx hb dX4_takeToldName_30 rfl (lv_at hl 1 rfl) ?_
      refine z_get (c0 := 4) (i0 := 0) (k0 := 6) (T := TX4) (v := .ref (ad 4 0 7)) S hG (hZ.2.1 (4, 0) (by decide)) rfl inlX4 (by decide) rfl zw_115 rfl dX4_takeToldName_31 ?_
      refine z_alen (c0 := 4) (i0 := 0) (k0 := 6) (n := 6) (v := 13) S hG (hZ.2.1 (4, 0) (by decide)) (by decide) rfl (by decide) (by rfl) dX4_takeToldName_34 ?_
      refine lv_icmp_ge (tgt := 47) hx hb dX4_takeToldName_35 (by decide) (fun c5 => ?_) (fun c5 => ?_)
      · have hf := zif_p c5 hf
        refine lv_iconst (v := 0) hx hb dX4_takeToldName_47 (by decide) ?_
        obtain ⟨hq1, hq2⟩ := Prod.mk.inj (Option.some.inj hf)
        subst hq1
        subst hq2
        exact z_zret S hG hS hlocks (Or.inl rfl) hr dX4_takeToldName_48
      · have hf := zif_n c5 hf
        refine lv_aload_n hx hb dX4_takeToldName_38 rfl (lv_at hl 1 rfl) ?_
        refine z_get (c0 := 4) (i0 := 0) (k0 := 6) (T := TX4) (v := .ref (ad 4 0 7)) S hG (hZ.2.1 (4, 0) (by decide)) rfl inlX4 (by decide) rfl zw_115 rfl dX4_takeToldName_39 ?_
        refine lv_iload_n hx hb dX4_takeToldName_42 rfl (lv_at hl 0 rfl) ?_
        obtain ⟨i6, hi6, hf⟩ := zbi hf
        refine z_zald (c0 := 4) (i0 := 0) (k0 := 6) S hG (hZ.2.1 (4, 0) (by decide)) (by decide) rfl hi6 dX4_takeToldName_43 ?_
        refine lv_if_ne (tgt := 49) hx hb dX4_takeToldName_44 (by decide) (fun c7 => ?_) (fun c7 => ?_)
        · have hf := zif_n c7 hf
          refine lv_aload_n hx hb dX4_takeToldName_49 rfl (lv_at hl 1 rfl) ?_
          refine lv_iload_n hx hb dX4_takeToldName_50 rfl (lv_at hl 0 rfl) ?_
          refine z_putI (c0 := 4) (i0 := 0) (k0 := 9) (T := TX4) S hG hS tyX4 tyX4_ok nmX4 (hZ.2.1 (4, 0) (by decide)) rfl inlX4 (by decide) rfl rfl zw_119 (by decide +kernel) rfl dX4_takeToldName_51 (fun H locs hG hS => ?_)
          obtain ⟨σ8, eσ8, hf⟩ := zlt_s hf
          rw [← eσ8] at hG
          refine lv_aload_n hx hb dX4_takeToldName_54 rfl (lv_at hl 1 rfl) ?_
          refine lv_dup hx hb dX4_takeToldName_55 rfl ?_
          refine z_get (c0 := 4) (i0 := 0) (k0 := 8) (T := TX4) (v := .int (zI σ8 4 0 8)) S hG (hZ.2.1 (4, 0) (by decide)) rfl inlX4 (by decide) rfl zw_118 rfl dX4_takeToldName_56 ?_
          refine lv_iconst (v := 1) hx hb dX4_takeToldName_59 (by decide) ?_
          refine lv_iadd hx hb dX4_takeToldName_60 ?_
          refine z_putI (c0 := 4) (i0 := 0) (k0 := 8) (T := TX4) S hG hS tyX4 tyX4_ok nmX4 (hZ.2.1 (4, 0) (by decide)) rfl inlX4 (by decide) rfl rfl zw_118 (by decide +kernel) rfl dX4_takeToldName_61 (fun H locs hG hS => ?_)
          obtain ⟨σ9, eσ9, hf⟩ := zlt_s hf
          rw [← eσ9] at hG
          refine lv_iconst (v := 1) hx hb dX4_takeToldName_64 (by decide) ?_
          obtain ⟨hq1, hq2⟩ := Prod.mk.inj (Option.some.inj hf)
          subst hq1
          subst hq2
          exact z_zret S hG hS hlocks (Or.inr rfl) hr dX4_takeToldName_65
        · have hf := zif_p c7 hf
          refine lv_iconst (v := 0) hx hb dX4_takeToldName_47 (by decide) ?_
          obtain ⟨hq1, hq2⟩ := Prod.mk.inj (Option.some.inj hf)
          subst hq1
          subst hq2
          exact z_zret S hG hS hlocks (Or.inl rfl) hr dX4_takeToldName_48
  have hK0 : ∀ (H : Heap) (locs : List Loc) (ls : Array Slot), zG D aC A nl ad σ s H → va_S A s.heap H locs → lv_has ls 2 [(0, .ref (ad 4 0 0))] → f_X4_takeToldName σ = some (r, σ') → zWk p l e ({ frames := 1, cells := 0, slots := 0, locals := 23 } : Room) s m args below meth c A (some (.int r)) (fun t => zG D aC A nl ad σ' t t.heap ∧ (r = 0 ∨ r = 1)) H locs (F0 m 0 ls []) := by
    intro H locs ls hG hS hl hf
    unfold f_X4_takeToldName at hf
    refine lv_aload_n hx hb dX4_takeToldName_0 rfl (lv_at hl 0 rfl) ?_
    refine lv_iconst (v := 2) hx hb dX4_takeToldName_1 (by decide) ?_
    obtain ⟨r1, er1, hf⟩ := zbi hf
    refine z_callV (n := 1) (rest := []) (st1 := [.int r1]) (c0 := 4) (i0 := 0) (hZ.2.1 (4, 0) (by decide)) (by rfl) S hG hS hZ (fun _ _ h => h) (c_X4_isKind l D aC zs A nl ad σ 2 r1 er1) zw_357 zw_358 zw_359 zw_27 zw_360 (by decide +kernel) ⟨rfl, rfl⟩ ⟨(Nat.le_of_ble_eq_true rfl), (Nat.le_of_ble_eq_true rfl)⟩ hl.1 rfl (by rfl) (by rfl) (Nat.le_of_ble_eq_true rfl) dX4_takeToldName_2 ⟨Nat.zero_le _, Nat.zero_le _⟩ (fun H locs hz2 hG hS => ?_)
    refine lv_if_eq (tgt := 22) hx hb dX4_takeToldName_5 (by decide) (fun c3 => ?_) (fun c3 => ?_)
    · have hf := zif_p c3 hf
      refine lv_iconst (v := (-1)) hx hb dX4_takeToldName_22 (by decide) ?_
      exact KJ23 (-1) σ H locs ls hG hS (lv_sub hl [0] rfl) hf
    · have hf := zif_n c3 hf
      refine lv_aload_n hx hb dX4_takeToldName_8 rfl (lv_at hl 0 rfl) ?_
      refine z_get (c0 := 4) (i0 := 0) (k0 := 1) (T := TX4) (v := .ref (ad 5 0 0)) S hG (hZ.2.1 (4, 0) (by decide)) rfl inlX4 (by decide) rfl zw_121 rfl dX4_takeToldName_9 ?_
      refine lv_aload_n hx hb dX4_takeToldName_12 rfl (lv_at hl 0 rfl) ?_
      obtain ⟨r10, er10, hf⟩ := zbi hf
      refine z_callV (n := 0) (rest := [.ref (ad 5 0 0)]) (st1 := [.long r10, .ref (ad 5 0 0)]) (c0 := 4) (i0 := 0) (hZ.2.1 (4, 0) (by decide)) (by rfl) S hG hS hZ (fun _ _ h => h) (c_X4_value l D aC zs A nl ad σ r10 er10) zw_374 zw_375 zw_376 zw_27 zw_377 (by decide +kernel) ⟨rfl, rfl⟩ ⟨(Nat.le_of_ble_eq_true rfl), (Nat.le_of_ble_eq_true rfl)⟩ hl.1 rfl (by rfl) (by rfl) (Nat.le_of_ble_eq_true rfl) dX4_takeToldName_13 ⟨Nat.zero_le _, Nat.zero_le _⟩ (fun H locs hz11 hG hS => ?_)
      obtain ⟨r12, er12, hf⟩ := zbi hf
      refine z_callV (n := 1) (rest := []) (st1 := [.int r12]) (c0 := 5) (i0 := 0) (hZ.2.1 (5, 0) (by decide)) (by rfl) S hG hS hZ (fun _ _ h => h) (c_X5_find l D aC zs A nl ad σ r10 r12 er12) zw_387 zw_388 zw_389 zw_19 zw_390 (by decide +kernel) ⟨rfl, rfl⟩ ⟨(Nat.le_of_ble_eq_true rfl), (Nat.le_of_ble_eq_true rfl)⟩ hl.1 rfl (by rfl) (by rfl) (Nat.le_of_ble_eq_true rfl) dX4_takeToldName_16 ⟨Nat.zero_le _, Nat.zero_le _⟩ (fun H locs hz13 hG hS => ?_)
      refine lv_goto (tgt := 23) hx hb dX4_takeToldName_19 (by decide) ?_
      exact KJ23 r12 σ H locs ls hG hS (lv_sub hl [0] rfl) hf
  exact hK0 _ _ ls hG hS hl hf
set_option maxRecDepth 100000 in
set_option maxHeartbeats 4000000 in
theorem c_X4_pairText (l : Launch) (D : va_G) (aC : Nat → ClassId) (zs : Nat × Nat) (A : Nat → Prop) (nl : zNL) (ad : Nat → Nat → Nat → Nat) (σ : zM) (x1 : Int32) (x2 : Int32) (r : Int32) (σ' : zM)  (hf : f_X4_pairText σ x1 x2 = some (r, σ')) : Met l yX4_pairText (Cond.code yX4_pairText cX4_pairText 5 (some .boolean) :: wsL_law) ({ frames := 3, cells := 0, slots := 0, locals := 68 } : Room) (zP D aC zs zfX A nl ad σ [.ref (ad 4 0 0), .int x1, .int x2]) (zQ (some (.int r)) (fun t => zG D aC A nl ad σ' t t.heap ∧ (r = 0 ∨ r = 1)) A) 0 0 A := by
  refine Met.ofW (cc := cX4_pairText) (maxL := 5) (ret := (some .boolean)) (by decide) rfl ?_
  intro p e s m args below meth c s₁ B hml hv
  obtain ⟨rfl, hG, hZ⟩ := hv
  have hx := B.exec
  have hb := B.bytes
  have hr := B.returns
  have hts : ∀ w ∈ wsL_law, w.before ([.ref (ad 4 0 0), .int x1, .int x2] : List Value).toArray s = true := fun w h => (atoms_spec B.pre) w (List.mem_cons_of_mem _ h)
  have hown : s.vm.findClass RX4 = some m.cls := findClass_of_methodNamed B.named
  have hlocks := B.notSynchronized
  have S : zS p m c cX4_pairText 5 s ([.ref (ad 4 0 0), .int x1, .int x2] : List Value).toArray RX4 := ⟨hx, hb, hml, hown, hts⟩
  have hS : va_S A s.heap s.heap [] := va_S.rf
  have hl := lv_entry ([.ref (ad 4 0 0), .int x1, .int x2]) (n := 5) (Nat.le_of_ble_eq_true rfl)
  rw [lg_entry_eq]
  generalize (lg_sl ([.ref (ad 4 0 0), .int x1, .int x2]) ++ List.replicate (5 - (lg_sl ([.ref (ad 4 0 0), .int x1, .int x2])).length) Slot.unset).toArray = ls at hl ⊢
  have hl : lv_has ls 5 [(0, .ref (ad 4 0 0)), (1, .int x1), (2, .int x2)] := hl
  generalize hargs : ([.ref (ad 4 0 0), .int x1, .int x2] : List Value).toArray = args at S hts ⊢
  clear hargs
  have hK0 : ∀ (H : Heap) (locs : List Loc) (ls : Array Slot), zG D aC A nl ad σ s H → va_S A s.heap H locs → lv_has ls 5 [(0, .ref (ad 4 0 0)), (1, .int x1), (2, .int x2)] → f_X4_pairText σ x1 x2 = some (r, σ') → zWk p l e ({ frames := 3, cells := 0, slots := 0, locals := 68 } : Room) s m args below meth c A (some (.int r)) (fun t => zG D aC A nl ad σ' t t.heap ∧ (r = 0 ∨ r = 1)) H locs (F0 m 0 ls []) := by
    intro H locs ls hG hS hl hf
    unfold f_X4_pairText at hf
    refine lv_aload_n hx hb dX4_pairText_0 rfl (lv_at hl 0 rfl) ?_
    refine lv_dup hx hb dX4_pairText_1 rfl ?_
    refine z_get (c0 := 4) (i0 := 0) (k0 := 8) (T := TX4) (v := .int (zI σ 4 0 8)) S hG (hZ.2.1 (4, 0) (by decide)) rfl inlX4 (by decide) rfl zw_118 rfl dX4_pairText_2 ?_
    refine lv_iconst (v := 1) hx hb dX4_pairText_5 (by decide) ?_
    refine lv_iadd hx hb dX4_pairText_6 ?_
    refine z_putI (c0 := 4) (i0 := 0) (k0 := 8) (T := TX4) S hG hS tyX4 tyX4_ok nmX4 (hZ.2.1 (4, 0) (by decide)) rfl inlX4 (by decide) rfl rfl zw_118 (by decide +kernel) rfl dX4_pairText_7 (fun H locs hG hS => ?_)
    obtain ⟨σ1, eσ1, hf⟩ := zlt_s hf
    rw [← eσ1] at hG
    refine lv_aload_n hx hb dX4_pairText_10 rfl (lv_at hl 0 rfl) ?_
    obtain ⟨q2, eq2, hf⟩ := zbi hf
    refine z_callV (n := 0) (rest := []) (st1 := [.int q2.1]) (c0 := 4) (i0 := 0) (hZ.2.1 (4, 0) (by decide)) (by rfl) S hG hS hZ (fun _ _ h => h) (c_X4_takeToldName l D aC zs A nl ad σ1 q2.1 q2.2 eq2) zw_423 zw_424 zw_425 zw_27 zw_426 (by decide +kernel) ⟨rfl, rfl⟩ ⟨(Nat.le_of_ble_eq_true rfl), (Nat.le_of_ble_eq_true rfl)⟩ hl.1 rfl (by rfl) (by rfl) (Nat.le_of_ble_eq_true rfl) dX4_pairText_11 ⟨Nat.zero_le _, Nat.zero_le _⟩ (fun H locs hz3 hG hS => ?_)
    refine lv_if_ne (tgt := 19) hx hb dX4_pairText_14 (by decide) (fun c4 => ?_) (fun c4 => ?_)
    · have hf := zif_n c4 hf
      refine lv_aload_n hx hb dX4_pairText_19 rfl (lv_at hl 0 rfl) ?_
      refine z_get (c0 := 4) (i0 := 0) (k0 := 9) (T := TX4) (v := .int (zI q2.2 4 0 9)) S hG (hZ.2.1 (4, 0) (by decide)) rfl inlX4 (by decide) rfl zw_119 rfl dX4_pairText_20 ?_
      refine lv_istore_n (lv' := [(3, .int (zI q2.2 4 0 9)), (0, .ref (ad 4 0 0)), (1, .int x1), (2, .int x2)]) hx hb dX4_pairText_23 rfl hl (by decide) rfl (fun ls hl => ?_)
      refine lv_aload_n hx hb dX4_pairText_24 rfl (lv_at hl 1 rfl) ?_
      obtain ⟨q5, eq5, hf⟩ := zbi hf
      refine z_callV (n := 0) (rest := []) (st1 := [.int q5.1]) (c0 := 4) (i0 := 0) (hZ.2.1 (4, 0) (by decide)) (by rfl) S hG hS hZ (fun _ _ h => h) (c_X4_takeToldName l D aC zs A nl ad q2.2 q5.1 q5.2 eq5) zw_423 zw_424 zw_425 zw_27 zw_426 (by decide +kernel) ⟨rfl, rfl⟩ ⟨(Nat.le_of_ble_eq_true rfl), (Nat.le_of_ble_eq_true rfl)⟩ hl.1 rfl (by rfl) (by rfl) (Nat.le_of_ble_eq_true rfl) dX4_pairText_25 ⟨Nat.zero_le _, Nat.zero_le _⟩ (fun H locs hz6 hG hS => ?_)
      refine lv_if_ne (tgt := 33) hx hb dX4_pairText_28 (by decide) (fun c7 => ?_) (fun c7 => ?_)
      · have hf := zif_n c7 hf
        refine lv_aload_n hx hb dX4_pairText_33 rfl (lv_at hl 1 rfl) ?_
        refine z_get (c0 := 4) (i0 := 0) (k0 := 9) (T := TX4) (v := .int (zI q5.2 4 0 9)) S hG (hZ.2.1 (4, 0) (by decide)) rfl inlX4 (by decide) rfl zw_119 rfl dX4_pairText_34 ?_
        refine lv_istore (lv' := [(4, .int (zI q5.2 4 0 9)), (3, .int (zI q2.2 4 0 9)), (0, .ref (ad 4 0 0)), (1, .int x1), (2, .int x2)]) hx hb dX4_pairText_37 hl (by decide) rfl (fun ls hl => ?_)
        refine lv_aload_n hx hb dX4_pairText_39 rfl (lv_at hl 2 rfl) ?_
        refine lv_iload_n hx hb dX4_pairText_40 rfl (lv_at hl 4 rfl) ?_
        obtain ⟨q8, eq8, hf⟩ := zbi hf
        refine z_callV (n := 1) (rest := []) (st1 := [.int q8.1]) (c0 := 4) (i0 := 0) (hZ.2.1 (4, 0) (by decide)) (by rfl) S hG hS hZ (fun _ _ h => h) (c_X4_takeWord l D aC zs A nl ad q5.2 x2 q8.1 q8.2 eq8) zw_395 zw_396 zw_397 zw_27 zw_398 (by decide +kernel) ⟨rfl, rfl⟩ ⟨(Nat.le_of_ble_eq_true rfl), (Nat.le_of_ble_eq_true rfl)⟩ hl.1 rfl (by rfl) (by rfl) (Nat.le_of_ble_eq_true rfl) dX4_pairText_41 ⟨Nat.zero_le _, Nat.zero_le _⟩ (fun H locs hz9 hG hS => ?_)
        refine lv_if_eq (tgt := 57) hx hb dX4_pairText_44 (by decide) (fun c10 => ?_) (fun c10 => ?_)
        · have hf := zif_p c10 hf
          refine lv_iconst (v := 0) hx hb dX4_pairText_57 (by decide) ?_
          obtain ⟨hq1, hq2⟩ := Prod.mk.inj (Option.some.inj hf)
          subst hq1
          subst hq2
          exact z_zret S hG hS hlocks (Or.inl rfl) hr dX4_pairText_58
        · have hf := zif_n c10 hf
          refine lv_aload_n hx hb dX4_pairText_47 rfl (lv_at hl 2 rfl) ?_
          refine lv_iconst (v := 0) hx hb dX4_pairText_48 (by decide) ?_
          refine lv_ldc (v := 999999) hx hb hown (hts _ zw_369) dX4_pairText_49 ?_
          obtain ⟨q11, eq11, hf⟩ := zbi hf
          refine z_callV (n := 2) (rest := []) (st1 := [.int q11.1]) (c0 := 4) (i0 := 0) (hZ.2.1 (4, 0) (by decide)) (by rfl) S hG hS hZ (fun _ _ h => h) (c_X4_takeNumber l D aC zs A nl ad q8.2 0 999999 q11.1 q11.2 eq11) zw_403 zw_404 zw_405 zw_27 zw_406 (by decide +kernel) ⟨rfl, rfl⟩ ⟨(Nat.le_of_ble_eq_true rfl), (Nat.le_of_ble_eq_true rfl)⟩ hl.1 rfl (by rfl) (by rfl) (Nat.le_of_ble_eq_true rfl) dX4_pairText_51 ⟨Nat.zero_le _, Nat.zero_le _⟩ (fun H locs hz12 hG hS => ?_)
          refine lv_if_ne (tgt := 59) hx hb dX4_pairText_54 (by decide) (fun c13 => ?_) (fun c13 => ?_)
          · have hf := zif_n c13 hf
            refine lv_aload_n hx hb dX4_pairText_59 rfl (lv_at hl 2 rfl) ?_
            refine lv_iload_n hx hb dX4_pairText_60 rfl (lv_at hl 3 rfl) ?_
            refine lv_iload_n hx hb dX4_pairText_61 rfl (lv_at hl 1 rfl) ?_
            refine lv_iload hx hb dX4_pairText_62 (lv_at hl 0 rfl) ?_
            refine lv_aload_n hx hb dX4_pairText_64 rfl (lv_at hl 2 rfl) ?_
            refine z_get (c0 := 4) (i0 := 0) (k0 := 9) (T := TX4) (v := .int (zI q11.2 4 0 9)) S hG (hZ.2.1 (4, 0) (by decide)) rfl inlX4 (by decide) rfl zw_119 rfl dX4_pairText_65 ?_
            obtain ⟨q14, eq14, hf⟩ := zbi hf
            refine z_callV (n := 4) (rest := []) (st1 := [.int q14.1]) (c0 := 4) (i0 := 0) (hZ.2.1 (4, 0) (by decide)) (by rfl) S hG hS hZ (fun _ _ h => h) (c_X4_endOf l D aC zs A nl ad q11.2 x1 (zI q2.2 4 0 9) (zI q5.2 4 0 9) (zI q11.2 4 0 9) q14.1 q14.2 eq14) zw_407 zw_408 zw_409 zw_27 zw_410 (by decide +kernel) ⟨rfl, rfl⟩ ⟨(Nat.le_of_ble_eq_true rfl), (Nat.le_of_ble_eq_true rfl)⟩ hl.1 rfl (by rfl) (by rfl) (Nat.le_of_ble_eq_true rfl) dX4_pairText_68 ⟨Nat.zero_le _, Nat.zero_le _⟩ (fun H locs hz15 hG hS => ?_)
            obtain ⟨hq1, hq2⟩ := Prod.mk.inj (Option.some.inj hf)
            subst hq1
            subst hq2
            exact z_zret S hG hS hlocks hz15 hr dX4_pairText_71
          · have hf := zif_p c13 hf
            refine lv_iconst (v := 0) hx hb dX4_pairText_57 (by decide) ?_
            obtain ⟨hq1, hq2⟩ := Prod.mk.inj (Option.some.inj hf)
            subst hq1
            subst hq2
            exact z_zret S hG hS hlocks (Or.inl rfl) hr dX4_pairText_58
      · have hf := zif_p c7 hf
        refine lv_iconst (v := 0) hx hb dX4_pairText_31 (by decide) ?_
        obtain ⟨hq1, hq2⟩ := Prod.mk.inj (Option.some.inj hf)
        subst hq1
        subst hq2
        exact z_zret S hG hS hlocks (Or.inl rfl) hr dX4_pairText_32
    · have hf := zif_p c4 hf
      refine lv_iconst (v := 0) hx hb dX4_pairText_17 (by decide) ?_
      obtain ⟨hq1, hq2⟩ := Prod.mk.inj (Option.some.inj hf)
      subst hq1
      subst hq2
      exact z_zret S hG hS hlocks (Or.inl rfl) hr dX4_pairText_18
  exact hK0 _ _ ls hG hS hl hf
set_option maxRecDepth 100000 in
set_option maxHeartbeats 4000000 in
theorem c_X4_rateText (l : Launch) (D : va_G) (aC : Nat → ClassId) (zs : Nat × Nat) (A : Nat → Prop) (nl : zNL) (ad : Nat → Nat → Nat → Nat) (σ : zM)  (r : Int32) (σ' : zM)  (hf : f_X4_rateText σ = some (r, σ')) : Met l yX4_rateText (Cond.code yX4_rateText cX4_rateText 2 (some .boolean) :: wsL_law) ({ frames := 3, cells := 0, slots := 0, locals := 68 } : Room) (zP D aC zs zfX A nl ad σ [.ref (ad 4 0 0)]) (zQ (some (.int r)) (fun t => zG D aC A nl ad σ' t t.heap ∧ (r = 0 ∨ r = 1)) A) 0 0 A := by
  refine Met.ofW (cc := cX4_rateText) (maxL := 2) (ret := (some .boolean)) (by decide) rfl ?_
  intro p e s m args below meth c s₁ B hml hv
  obtain ⟨rfl, hG, hZ⟩ := hv
  have hx := B.exec
  have hb := B.bytes
  have hr := B.returns
  have hts : ∀ w ∈ wsL_law, w.before ([.ref (ad 4 0 0)] : List Value).toArray s = true := fun w h => (atoms_spec B.pre) w (List.mem_cons_of_mem _ h)
  have hown : s.vm.findClass RX4 = some m.cls := findClass_of_methodNamed B.named
  have hlocks := B.notSynchronized
  have S : zS p m c cX4_rateText 2 s ([.ref (ad 4 0 0)] : List Value).toArray RX4 := ⟨hx, hb, hml, hown, hts⟩
  have hS : va_S A s.heap s.heap [] := va_S.rf
  have hl := lv_entry ([.ref (ad 4 0 0)]) (n := 2) (Nat.le_of_ble_eq_true rfl)
  rw [lg_entry_eq]
  generalize (lg_sl ([.ref (ad 4 0 0)]) ++ List.replicate (2 - (lg_sl ([.ref (ad 4 0 0)])).length) Slot.unset).toArray = ls at hl ⊢
  have hl : lv_has ls 2 [(0, .ref (ad 4 0 0))] := hl
  generalize hargs : ([.ref (ad 4 0 0)] : List Value).toArray = args at S hts ⊢
  clear hargs
  have hK0 : ∀ (H : Heap) (locs : List Loc) (ls : Array Slot), zG D aC A nl ad σ s H → va_S A s.heap H locs → lv_has ls 2 [(0, .ref (ad 4 0 0))] → f_X4_rateText σ = some (r, σ') → zWk p l e ({ frames := 3, cells := 0, slots := 0, locals := 68 } : Room) s m args below meth c A (some (.int r)) (fun t => zG D aC A nl ad σ' t t.heap ∧ (r = 0 ∨ r = 1)) H locs (F0 m 0 ls []) := by
    intro H locs ls hG hS hl hf
    unfold f_X4_rateText at hf
    refine lv_aload_n hx hb dX4_rateText_0 rfl (lv_at hl 0 rfl) ?_
    refine lv_dup hx hb dX4_rateText_1 rfl ?_
    refine z_get (c0 := 4) (i0 := 0) (k0 := 8) (T := TX4) (v := .int (zI σ 4 0 8)) S hG (hZ.2.1 (4, 0) (by decide)) rfl inlX4 (by decide) rfl zw_118 rfl dX4_rateText_2 ?_
    refine lv_iconst (v := 1) hx hb dX4_rateText_5 (by decide) ?_
    refine lv_iadd hx hb dX4_rateText_6 ?_
    refine z_putI (c0 := 4) (i0 := 0) (k0 := 8) (T := TX4) S hG hS tyX4 tyX4_ok nmX4 (hZ.2.1 (4, 0) (by decide)) rfl inlX4 (by decide) rfl rfl zw_118 (by decide +kernel) rfl dX4_rateText_7 (fun H locs hG hS => ?_)
    obtain ⟨σ1, eσ1, hf⟩ := zlt_s hf
    rw [← eσ1] at hG
    refine lv_aload_n hx hb dX4_rateText_10 rfl (lv_at hl 0 rfl) ?_
    obtain ⟨q2, eq2, hf⟩ := zbi hf
    refine z_callV (n := 0) (rest := []) (st1 := [.int q2.1]) (c0 := 4) (i0 := 0) (hZ.2.1 (4, 0) (by decide)) (by rfl) S hG hS hZ (fun _ _ h => h) (c_X4_takeToldName l D aC zs A nl ad σ1 q2.1 q2.2 eq2) zw_423 zw_424 zw_425 zw_27 zw_426 (by decide +kernel) ⟨rfl, rfl⟩ ⟨(Nat.le_of_ble_eq_true rfl), (Nat.le_of_ble_eq_true rfl)⟩ hl.1 rfl (by rfl) (by rfl) (Nat.le_of_ble_eq_true rfl) dX4_rateText_11 ⟨Nat.zero_le _, Nat.zero_le _⟩ (fun H locs hz3 hG hS => ?_)
    refine lv_if_ne (tgt := 19) hx hb dX4_rateText_14 (by decide) (fun c4 => ?_) (fun c4 => ?_)
    · have hf := zif_n c4 hf
      refine lv_aload_n hx hb dX4_rateText_19 rfl (lv_at hl 0 rfl) ?_
      refine z_get (c0 := 4) (i0 := 0) (k0 := 9) (T := TX4) (v := .int (zI q2.2 4 0 9)) S hG (hZ.2.1 (4, 0) (by decide)) rfl inlX4 (by decide) rfl zw_119 rfl dX4_rateText_20 ?_
      refine lv_istore_n (lv' := [(1, .int (zI q2.2 4 0 9)), (0, .ref (ad 4 0 0))]) hx hb dX4_rateText_23 rfl hl (by decide) rfl (fun ls hl => ?_)
      refine lv_aload_n hx hb dX4_rateText_24 rfl (lv_at hl 1 rfl) ?_
      refine lv_iconst (v := 0) hx hb dX4_rateText_25 (by decide) ?_
      refine lv_sipush (v := 9999) hx hb dX4_rateText_26 (by decide) ?_
      obtain ⟨q5, eq5, hf⟩ := zbi hf
      refine z_callV (n := 2) (rest := []) (st1 := [.int q5.1]) (c0 := 4) (i0 := 0) (hZ.2.1 (4, 0) (by decide)) (by rfl) S hG hS hZ (fun _ _ h => h) (c_X4_takeNumber l D aC zs A nl ad q2.2 0 9999 q5.1 q5.2 eq5) zw_403 zw_404 zw_405 zw_27 zw_406 (by decide +kernel) ⟨rfl, rfl⟩ ⟨(Nat.le_of_ble_eq_true rfl), (Nat.le_of_ble_eq_true rfl)⟩ hl.1 rfl (by rfl) (by rfl) (Nat.le_of_ble_eq_true rfl) dX4_rateText_29 ⟨Nat.zero_le _, Nat.zero_le _⟩ (fun H locs hz6 hG hS => ?_)
      refine lv_if_ne (tgt := 37) hx hb dX4_rateText_32 (by decide) (fun c7 => ?_) (fun c7 => ?_)
      · have hf := zif_n c7 hf
        refine lv_aload_n hx hb dX4_rateText_37 rfl (lv_at hl 1 rfl) ?_
        refine z_get (c0 := 4) (i0 := 0) (k0 := 7) (T := TX4) (v := va_rf (Option.map (fun j => ad 0 j 0) (zR q5.2 4 0 7))) S hG (hZ.2.1 (4, 0) (by decide)) rfl inlX4 (by decide) rfl zw_117 rfl dX4_rateText_38 ?_
        rcases hE9 : (zR q5.2 4 0 7) with _ | j8
        · have hf := znu_n0 hE9 hf
          refine W.eq (g2 := F0 m 41 ls [.null]) (by first | rfl | (rw [hE9]; rfl)) ?_
          refine lv_iload_n hx hb dX4_rateText_41 rfl (lv_at hl 0 rfl) ?_
          refine lv_aload_n hx hb dX4_rateText_42 rfl (lv_at hl 1 rfl) ?_
          refine z_get (c0 := 4) (i0 := 0) (k0 := 9) (T := TX4) (v := .int (zI q5.2 4 0 9)) S hG (hZ.2.1 (4, 0) (by decide)) rfl inlX4 (by decide) rfl zw_119 rfl dX4_rateText_43 ?_
          cases hf
        · have hf := znu_s0 hE9 hf
          refine W.eq (g2 := F0 m 41 ls [.ref (ad 0 j8 0)]) (by first | rfl | (rw [hE9]; rfl)) ?_
          refine lv_iload_n hx hb dX4_rateText_41 rfl (lv_at hl 0 rfl) ?_
          refine lv_aload_n hx hb dX4_rateText_42 rfl (lv_at hl 1 rfl) ?_
          refine z_get (c0 := 4) (i0 := 0) (k0 := 9) (T := TX4) (v := .int (zI q5.2 4 0 9)) S hG (hZ.2.1 (4, 0) (by decide)) rfl inlX4 (by decide) rfl zw_119 rfl dX4_rateText_43 ?_
          obtain ⟨σ10, eσ10, hf⟩ := zbi hf
          refine z_callV (n := 2) (rest := []) (st1 := []) (c0 := 0) (i0 := j8) ((fun j h => hG.2.2.2.1 4 0 7 j rfl h) j8 hE9) (by rfl) S hG hS hZ (fun _ _ h => h) (c_X0_setRate l D aC zs A nl ad q5.2 j8 (zI q2.2 4 0 9) (zI q5.2 4 0 9) σ10 ((fun j h => hG.2.2.2.1 4 0 7 j rfl h) j8 hE9) eσ10) zw_431 zw_432 zw_433 zw_76 zw_434 (by decide +kernel) ⟨rfl, rfl⟩ ⟨(Nat.le_of_ble_eq_true rfl), (Nat.le_of_ble_eq_true rfl)⟩ hl.1 rfl (by rfl) (by rfl) (Nat.le_of_ble_eq_true rfl) dX4_rateText_46 ⟨Nat.zero_le _, Nat.zero_le _⟩ (fun H locs hz11 hG hS => ?_)
          refine lv_aload_n hx hb dX4_rateText_49 rfl (lv_at hl 1 rfl) ?_
          refine lv_iconst (v := 3) hx hb dX4_rateText_50 (by decide) ?_
          refine lv_iconst (v := 0) hx hb dX4_rateText_51 (by decide) ?_
          refine lv_iconst (v := 0) hx hb dX4_rateText_52 (by decide) ?_
          refine lv_iconst (v := 0) hx hb dX4_rateText_53 (by decide) ?_
          obtain ⟨q12, eq12, hf⟩ := zbi hf
          refine z_callV (n := 4) (rest := []) (st1 := [.int q12.1]) (c0 := 4) (i0 := 0) (hZ.2.1 (4, 0) (by decide)) (by rfl) S hG hS hZ (fun _ _ h => h) (c_X4_endOf l D aC zs A nl ad σ10 3 0 0 0 q12.1 q12.2 eq12) zw_407 zw_408 zw_409 zw_27 zw_410 (by decide +kernel) ⟨rfl, rfl⟩ ⟨(Nat.le_of_ble_eq_true rfl), (Nat.le_of_ble_eq_true rfl)⟩ hl.1 rfl (by rfl) (by rfl) (Nat.le_of_ble_eq_true rfl) dX4_rateText_54 ⟨Nat.zero_le _, Nat.zero_le _⟩ (fun H locs hz13 hG hS => ?_)
          obtain ⟨hq1, hq2⟩ := Prod.mk.inj (Option.some.inj hf)
          subst hq1
          subst hq2
          exact z_zret S hG hS hlocks hz13 hr dX4_rateText_57
      · have hf := zif_p c7 hf
        refine lv_iconst (v := 0) hx hb dX4_rateText_35 (by decide) ?_
        obtain ⟨hq1, hq2⟩ := Prod.mk.inj (Option.some.inj hf)
        subst hq1
        subst hq2
        exact z_zret S hG hS hlocks (Or.inl rfl) hr dX4_rateText_36
    · have hf := zif_p c4 hf
      refine lv_iconst (v := 0) hx hb dX4_rateText_17 (by decide) ?_
      obtain ⟨hq1, hq2⟩ := Prod.mk.inj (Option.some.inj hf)
      subst hq1
      subst hq2
      exact z_zret S hG hS hlocks (Or.inl rfl) hr dX4_rateText_18
  exact hK0 _ _ ls hG hS hl hf
set_option maxRecDepth 100000 in
set_option maxHeartbeats 4000000 in
theorem c_X4_termText (l : Launch) (D : va_G) (aC : Nat → ClassId) (zs : Nat × Nat) (A : Nat → Prop) (nl : zNL) (ad : Nat → Nat → Nat → Nat) (σ : zM) (x1 : Int32) (x2 : Int32) (x3 : Int32) (x4 : Int32) (r : Int32) (σ' : zM)  (hf : f_X4_termText σ x1 x2 x3 x4 = some (r, σ')) : Met l yX4_termText (Cond.code yX4_termText cX4_termText 5 (some .boolean) :: wsL_law) ({ frames := 3, cells := 0, slots := 0, locals := 68 } : Room) (zP D aC zs zfX A nl ad σ [.ref (ad 4 0 0), .int x1, .int x2, .int x3, .int x4]) (zQ (some (.int r)) (fun t => zG D aC A nl ad σ' t t.heap ∧ (r = 0 ∨ r = 1)) A) 0 0 A := by
  refine Met.ofW (cc := cX4_termText) (maxL := 5) (ret := (some .boolean)) (by decide) rfl ?_
  intro p e s m args below meth c s₁ B hml hv
  obtain ⟨rfl, hG, hZ⟩ := hv
  have hx := B.exec
  have hb := B.bytes
  have hr := B.returns
  have hts : ∀ w ∈ wsL_law, w.before ([.ref (ad 4 0 0), .int x1, .int x2, .int x3, .int x4] : List Value).toArray s = true := fun w h => (atoms_spec B.pre) w (List.mem_cons_of_mem _ h)
  have hown : s.vm.findClass RX4 = some m.cls := findClass_of_methodNamed B.named
  have hlocks := B.notSynchronized
  have S : zS p m c cX4_termText 5 s ([.ref (ad 4 0 0), .int x1, .int x2, .int x3, .int x4] : List Value).toArray RX4 := ⟨hx, hb, hml, hown, hts⟩
  have hS : va_S A s.heap s.heap [] := va_S.rf
  have hl := lv_entry ([.ref (ad 4 0 0), .int x1, .int x2, .int x3, .int x4]) (n := 5) (Nat.le_of_ble_eq_true rfl)
  rw [lg_entry_eq]
  generalize (lg_sl ([.ref (ad 4 0 0), .int x1, .int x2, .int x3, .int x4]) ++ List.replicate (5 - (lg_sl ([.ref (ad 4 0 0), .int x1, .int x2, .int x3, .int x4])).length) Slot.unset).toArray = ls at hl ⊢
  have hl : lv_has ls 5 [(0, .ref (ad 4 0 0)), (1, .int x1), (2, .int x2), (3, .int x3), (4, .int x4)] := hl
  generalize hargs : ([.ref (ad 4 0 0), .int x1, .int x2, .int x3, .int x4] : List Value).toArray = args at S hts ⊢
  clear hargs
  have hK0 : ∀ (H : Heap) (locs : List Loc) (ls : Array Slot), zG D aC A nl ad σ s H → va_S A s.heap H locs → lv_has ls 5 [(0, .ref (ad 4 0 0)), (1, .int x1), (2, .int x2), (3, .int x3), (4, .int x4)] → f_X4_termText σ x1 x2 x3 x4 = some (r, σ') → zWk p l e ({ frames := 3, cells := 0, slots := 0, locals := 68 } : Room) s m args below meth c A (some (.int r)) (fun t => zG D aC A nl ad σ' t t.heap ∧ (r = 0 ∨ r = 1)) H locs (F0 m 0 ls []) := by
    intro H locs ls hG hS hl hf
    unfold f_X4_termText at hf
    refine lv_aload_n hx hb dX4_termText_0 rfl (lv_at hl 0 rfl) ?_
    refine lv_dup hx hb dX4_termText_1 rfl ?_
    refine z_get (c0 := 4) (i0 := 0) (k0 := 8) (T := TX4) (v := .int (zI σ 4 0 8)) S hG (hZ.2.1 (4, 0) (by decide)) rfl inlX4 (by decide) rfl zw_118 rfl dX4_termText_2 ?_
    refine lv_iconst (v := 1) hx hb dX4_termText_5 (by decide) ?_
    refine lv_iadd hx hb dX4_termText_6 ?_
    refine z_putI (c0 := 4) (i0 := 0) (k0 := 8) (T := TX4) S hG hS tyX4 tyX4_ok nmX4 (hZ.2.1 (4, 0) (by decide)) rfl inlX4 (by decide) rfl rfl zw_118 (by decide +kernel) rfl dX4_termText_7 (fun H locs hG hS => ?_)
    obtain ⟨σ1, eσ1, hf⟩ := zlt_s hf
    rw [← eσ1] at hG
    refine lv_aload_n hx hb dX4_termText_10 rfl (lv_at hl 0 rfl) ?_
    refine lv_iload_n hx hb dX4_termText_11 rfl (lv_at hl 3 rfl) ?_
    refine lv_iload hx hb dX4_termText_12 (lv_at hl 4 rfl) ?_
    obtain ⟨q2, eq2, hf⟩ := zbi hf
    refine z_callV (n := 2) (rest := []) (st1 := [.int q2.1]) (c0 := 4) (i0 := 0) (hZ.2.1 (4, 0) (by decide)) (by rfl) S hG hS hZ (fun _ _ h => h) (c_X4_takeNumber l D aC zs A nl ad σ1 x3 x4 q2.1 q2.2 eq2) zw_403 zw_404 zw_405 zw_27 zw_406 (by decide +kernel) ⟨rfl, rfl⟩ ⟨(Nat.le_of_ble_eq_true rfl), (Nat.le_of_ble_eq_true rfl)⟩ hl.1 rfl (by rfl) (by rfl) (Nat.le_of_ble_eq_true rfl) dX4_termText_14 ⟨Nat.zero_le _, Nat.zero_le _⟩ (fun H locs hz3 hG hS => ?_)
    refine lv_if_ne (tgt := 22) hx hb dX4_termText_17 (by decide) (fun c4 => ?_) (fun c4 => ?_)
    · have hf := zif_n c4 hf
      refine lv_aload_n hx hb dX4_termText_22 rfl (lv_at hl 0 rfl) ?_
      refine z_get (c0 := 4) (i0 := 0) (k0 := 7) (T := TX4) (v := va_rf (Option.map (fun j => ad 0 j 0) (zR q2.2 4 0 7))) S hG (hZ.2.1 (4, 0) (by decide)) rfl inlX4 (by decide) rfl zw_117 rfl dX4_termText_23 ?_
      rcases hE6 : (zR q2.2 4 0 7) with _ | j5
      · have hf := znu_n0 hE6 hf
        refine W.eq (g2 := F0 m 26 ls [.null]) (by first | rfl | (rw [hE6]; rfl)) ?_
        refine lv_iload_n hx hb dX4_termText_26 rfl (lv_at hl 2 rfl) ?_
        refine lv_aload_n hx hb dX4_termText_27 rfl (lv_at hl 0 rfl) ?_
        refine z_get (c0 := 4) (i0 := 0) (k0 := 9) (T := TX4) (v := .int (zI q2.2 4 0 9)) S hG (hZ.2.1 (4, 0) (by decide)) rfl inlX4 (by decide) rfl zw_119 rfl dX4_termText_28 ?_
        cases hf
      · have hf := znu_s0 hE6 hf
        refine W.eq (g2 := F0 m 26 ls [.ref (ad 0 j5 0)]) (by first | rfl | (rw [hE6]; rfl)) ?_
        refine lv_iload_n hx hb dX4_termText_26 rfl (lv_at hl 2 rfl) ?_
        refine lv_aload_n hx hb dX4_termText_27 rfl (lv_at hl 0 rfl) ?_
        refine z_get (c0 := 4) (i0 := 0) (k0 := 9) (T := TX4) (v := .int (zI q2.2 4 0 9)) S hG (hZ.2.1 (4, 0) (by decide)) rfl inlX4 (by decide) rfl zw_119 rfl dX4_termText_28 ?_
        obtain ⟨σ7, eσ7, hf⟩ := zbi hf
        refine z_callV (n := 2) (rest := []) (st1 := []) (c0 := 0) (i0 := j5) ((fun j h => hG.2.2.2.1 4 0 7 j rfl h) j5 hE6) (by rfl) S hG hS hZ (fun _ _ h => h) (c_X0_setTerm l D aC zs A nl ad q2.2 j5 x2 (zI q2.2 4 0 9) σ7 ((fun j h => hG.2.2.2.1 4 0 7 j rfl h) j5 hE6) eσ7) zw_439 zw_440 zw_441 zw_76 zw_442 (by decide +kernel) ⟨rfl, rfl⟩ ⟨(Nat.le_of_ble_eq_true rfl), (Nat.le_of_ble_eq_true rfl)⟩ hl.1 rfl (by rfl) (by rfl) (Nat.le_of_ble_eq_true rfl) dX4_termText_31 ⟨Nat.zero_le _, Nat.zero_le _⟩ (fun H locs hz8 hG hS => ?_)
        refine lv_aload_n hx hb dX4_termText_34 rfl (lv_at hl 0 rfl) ?_
        refine lv_iload_n hx hb dX4_termText_35 rfl (lv_at hl 1 rfl) ?_
        refine lv_iconst (v := 0) hx hb dX4_termText_36 (by decide) ?_
        refine lv_iconst (v := 0) hx hb dX4_termText_37 (by decide) ?_
        refine lv_iconst (v := 0) hx hb dX4_termText_38 (by decide) ?_
        obtain ⟨q9, eq9, hf⟩ := zbi hf
        refine z_callV (n := 4) (rest := []) (st1 := [.int q9.1]) (c0 := 4) (i0 := 0) (hZ.2.1 (4, 0) (by decide)) (by rfl) S hG hS hZ (fun _ _ h => h) (c_X4_endOf l D aC zs A nl ad σ7 x1 0 0 0 q9.1 q9.2 eq9) zw_407 zw_408 zw_409 zw_27 zw_410 (by decide +kernel) ⟨rfl, rfl⟩ ⟨(Nat.le_of_ble_eq_true rfl), (Nat.le_of_ble_eq_true rfl)⟩ hl.1 rfl (by rfl) (by rfl) (Nat.le_of_ble_eq_true rfl) dX4_termText_39 ⟨Nat.zero_le _, Nat.zero_le _⟩ (fun H locs hz10 hG hS => ?_)
        obtain ⟨hq1, hq2⟩ := Prod.mk.inj (Option.some.inj hf)
        subst hq1
        subst hq2
        exact z_zret S hG hS hlocks hz10 hr dX4_termText_42
    · have hf := zif_p c4 hf
      refine lv_iconst (v := 0) hx hb dX4_termText_20 (by decide) ?_
      obtain ⟨hq1, hq2⟩ := Prod.mk.inj (Option.some.inj hf)
      subst hq1
      subst hq2
      exact z_zret S hG hS hlocks (Or.inl rfl) hr dX4_termText_21
  exact hK0 _ _ ls hG hS hl hf
set_option maxRecDepth 100000 in
set_option maxHeartbeats 4000000 in
theorem c_X4_costText (l : Launch) (D : va_G) (aC : Nat → ClassId) (zs : Nat × Nat) (A : Nat → Prop) (nl : zNL) (ad : Nat → Nat → Nat → Nat) (σ : zM)  (r : Int32) (σ' : zM)  (hf : f_X4_costText σ = some (r, σ')) : Met l yX4_costText (Cond.code yX4_costText cX4_costText 2 (some .boolean) :: wsL_law) ({ frames := 3, cells := 0, slots := 0, locals := 68 } : Room) (zP D aC zs zfX A nl ad σ [.ref (ad 4 0 0)]) (zQ (some (.int r)) (fun t => zG D aC A nl ad σ' t t.heap ∧ (r = 0 ∨ r = 1)) A) 0 0 A := by
  refine Met.ofW (cc := cX4_costText) (maxL := 2) (ret := (some .boolean)) (by decide) rfl ?_
  intro p e s m args below meth c s₁ B hml hv
  obtain ⟨rfl, hG, hZ⟩ := hv
  have hx := B.exec
  have hb := B.bytes
  have hr := B.returns
  have hts : ∀ w ∈ wsL_law, w.before ([.ref (ad 4 0 0)] : List Value).toArray s = true := fun w h => (atoms_spec B.pre) w (List.mem_cons_of_mem _ h)
  have hown : s.vm.findClass RX4 = some m.cls := findClass_of_methodNamed B.named
  have hlocks := B.notSynchronized
  have S : zS p m c cX4_costText 2 s ([.ref (ad 4 0 0)] : List Value).toArray RX4 := ⟨hx, hb, hml, hown, hts⟩
  have hS : va_S A s.heap s.heap [] := va_S.rf
  have hl := lv_entry ([.ref (ad 4 0 0)]) (n := 2) (Nat.le_of_ble_eq_true rfl)
  rw [lg_entry_eq]
  generalize (lg_sl ([.ref (ad 4 0 0)]) ++ List.replicate (2 - (lg_sl ([.ref (ad 4 0 0)])).length) Slot.unset).toArray = ls at hl ⊢
  have hl : lv_has ls 2 [(0, .ref (ad 4 0 0))] := hl
  generalize hargs : ([.ref (ad 4 0 0)] : List Value).toArray = args at S hts ⊢
  clear hargs
  have KJ69 : ∀ (y1b69 : Int32)  (σb69 : zM) (H : Heap) (locs : List Loc) (ls : Array Slot), zG D aC A nl ad σb69 s H → va_S A s.heap H locs → lv_has ls 2 [(0, .ref (ad 4 0 0)), (1, .int y1b69)] → (f_X4_costText_B69 σb69 y1b69) = some (r, σ') → zWk p l e ({ frames := 3, cells := 0, slots := 0, locals := 68 } : Room) s m args below meth c A (some (.int r)) (fun t => zG D aC A nl ad σ' t t.heap ∧ (r = 0 ∨ r = 1)) H locs (F0 m 69 ls []) := by
    intro y1b69  σb69 H locs ls hG hS hl hf
    unfold f_X4_costText_B69 at hf
    refine lv_aload_n hx hb dX4_costText_69 rfl (lv_at hl 0 rfl) ?_
    refine lv_bipush (v := 7) hx hb dX4_costText_70 (by decide) ?_
    refine lv_iload_n hx hb dX4_costText_72 rfl (lv_at hl 1 rfl) ?_
    refine lv_iconst (v := 0) hx hb dX4_costText_73 (by decide) ?_
    refine lv_iconst (v := 0) hx hb dX4_costText_74 (by decide) ?_
    obtain ⟨q11, eq11, hf⟩ := zbi hf
    refine z_callV (n := 4) (rest := []) (st1 := [.int q11.1]) (c0 := 4) (i0 := 0) (hZ.2.1 (4, 0) (by decide)) (by rfl) S hG hS hZ (fun _ _ h => h) (c_X4_endOf l D aC zs A nl ad σb69 7 y1b69 0 0 q11.1 q11.2 eq11) zw_407 zw_408 zw_409 zw_27 zw_410 (by decide +kernel) ⟨rfl, rfl⟩ ⟨(Nat.le_of_ble_eq_true rfl), (Nat.le_of_ble_eq_true rfl)⟩ hl.1 rfl (by rfl) (by rfl) (Nat.le_of_ble_eq_true rfl) dX4_costText_75 ⟨Nat.zero_le _, Nat.zero_le _⟩ (fun H locs hz12 hG hS => ?_)
    obtain ⟨hq1, hq2⟩ := Prod.mk.inj (Option.some.inj hf)
    subst hq1
    subst hq2
    exact z_zret S hG hS hlocks hz12 hr dX4_costText_78
  have hK0 : ∀ (H : Heap) (locs : List Loc) (ls : Array Slot), zG D aC A nl ad σ s H → va_S A s.heap H locs → lv_has ls 2 [(0, .ref (ad 4 0 0))] → f_X4_costText σ = some (r, σ') → zWk p l e ({ frames := 3, cells := 0, slots := 0, locals := 68 } : Room) s m args below meth c A (some (.int r)) (fun t => zG D aC A nl ad σ' t t.heap ∧ (r = 0 ∨ r = 1)) H locs (F0 m 0 ls []) := by
    intro H locs ls hG hS hl hf
    unfold f_X4_costText at hf
    refine lv_aload_n hx hb dX4_costText_0 rfl (lv_at hl 0 rfl) ?_
    refine lv_dup hx hb dX4_costText_1 rfl ?_
    refine z_get (c0 := 4) (i0 := 0) (k0 := 8) (T := TX4) (v := .int (zI σ 4 0 8)) S hG (hZ.2.1 (4, 0) (by decide)) rfl inlX4 (by decide) rfl zw_118 rfl dX4_costText_2 ?_
    refine lv_iconst (v := 1) hx hb dX4_costText_5 (by decide) ?_
    refine lv_iadd hx hb dX4_costText_6 ?_
    refine z_putI (c0 := 4) (i0 := 0) (k0 := 8) (T := TX4) S hG hS tyX4 tyX4_ok nmX4 (hZ.2.1 (4, 0) (by decide)) rfl inlX4 (by decide) rfl rfl zw_118 (by decide +kernel) rfl dX4_costText_7 (fun H locs hG hS => ?_)
    obtain ⟨σ1, eσ1, hf⟩ := zlt_s hf
    rw [← eσ1] at hG
    refine lv_aload_n hx hb dX4_costText_10 rfl (lv_at hl 0 rfl) ?_
    refine lv_bipush (v := 18) hx hb dX4_costText_11 (by decide) ?_
    obtain ⟨q2, eq2, hf⟩ := zbi hf
    refine z_callV (n := 1) (rest := []) (st1 := [.int q2.1]) (c0 := 4) (i0 := 0) (hZ.2.1 (4, 0) (by decide)) (by rfl) S hG hS hZ (fun _ _ h => h) (c_X4_takeWord l D aC zs A nl ad σ1 18 q2.1 q2.2 eq2) zw_395 zw_396 zw_397 zw_27 zw_398 (by decide +kernel) ⟨rfl, rfl⟩ ⟨(Nat.le_of_ble_eq_true rfl), (Nat.le_of_ble_eq_true rfl)⟩ hl.1 rfl (by rfl) (by rfl) (Nat.le_of_ble_eq_true rfl) dX4_costText_13 ⟨Nat.zero_le _, Nat.zero_le _⟩ (fun H locs hz3 hG hS => ?_)
    refine lv_if_eq (tgt := 29) hx hb dX4_costText_16 (by decide) (fun c4 => ?_) (fun c4 => ?_)
    · have hf := zif_p c4 hf
      refine lv_iconst (v := 0) hx hb dX4_costText_29 (by decide) ?_
      obtain ⟨hq1, hq2⟩ := Prod.mk.inj (Option.some.inj hf)
      subst hq1
      subst hq2
      exact z_zret S hG hS hlocks (Or.inl rfl) hr dX4_costText_30
    · have hf := zif_n c4 hf
      refine lv_aload_n hx hb dX4_costText_19 rfl (lv_at hl 0 rfl) ?_
      refine lv_iconst (v := 0) hx hb dX4_costText_20 (by decide) ?_
      refine lv_ldc (v := 999999) hx hb hown (hts _ zw_369) dX4_costText_21 ?_
      obtain ⟨q5, eq5, hf⟩ := zbi hf
      refine z_callV (n := 2) (rest := []) (st1 := [.int q5.1]) (c0 := 4) (i0 := 0) (hZ.2.1 (4, 0) (by decide)) (by rfl) S hG hS hZ (fun _ _ h => h) (c_X4_takeNumber l D aC zs A nl ad q2.2 0 999999 q5.1 q5.2 eq5) zw_403 zw_404 zw_405 zw_27 zw_406 (by decide +kernel) ⟨rfl, rfl⟩ ⟨(Nat.le_of_ble_eq_true rfl), (Nat.le_of_ble_eq_true rfl)⟩ hl.1 rfl (by rfl) (by rfl) (Nat.le_of_ble_eq_true rfl) dX4_costText_23 ⟨Nat.zero_le _, Nat.zero_le _⟩ (fun H locs hz6 hG hS => ?_)
      refine lv_if_ne (tgt := 31) hx hb dX4_costText_26 (by decide) (fun c7 => ?_) (fun c7 => ?_)
      · have hf := zif_n c7 hf
        refine lv_aload_n hx hb dX4_costText_31 rfl (lv_at hl 0 rfl) ?_
        refine z_get (c0 := 4) (i0 := 0) (k0 := 9) (T := TX4) (v := .int (zI q5.2 4 0 9)) S hG (hZ.2.1 (4, 0) (by decide)) rfl inlX4 (by decide) rfl zw_119 rfl dX4_costText_32 ?_
        refine lv_istore_n (lv' := [(1, .int (zI q5.2 4 0 9)), (0, .ref (ad 4 0 0))]) hx hb dX4_costText_35 rfl hl (by decide) rfl (fun ls hl => ?_)
        refine lv_aload_n hx hb dX4_costText_36 rfl (lv_at hl 1 rfl) ?_
        refine lv_bipush (v := 19) hx hb dX4_costText_37 (by decide) ?_
        obtain ⟨q8, eq8, hf⟩ := zbi hf
        refine z_callV (n := 1) (rest := []) (st1 := [.int q8.1]) (c0 := 4) (i0 := 0) (hZ.2.1 (4, 0) (by decide)) (by rfl) S hG hS hZ (fun _ _ h => h) (c_X4_takeWord l D aC zs A nl ad q5.2 19 q8.1 q8.2 eq8) zw_395 zw_396 zw_397 zw_27 zw_398 (by decide +kernel) ⟨rfl, rfl⟩ ⟨(Nat.le_of_ble_eq_true rfl), (Nat.le_of_ble_eq_true rfl)⟩ hl.1 rfl (by rfl) (by rfl) (Nat.le_of_ble_eq_true rfl) dX4_costText_39 ⟨Nat.zero_le _, Nat.zero_le _⟩ (fun H locs hz9 hG hS => ?_)
        refine lv_if_eq (tgt := 69) hx hb dX4_costText_42 (by decide) (fun c10 => ?_) (fun c10 => ?_)
        · have hf := zif_p c10 hf
          exact KJ69 (zI q5.2 4 0 9) q8.2 H locs ls hG hS (lv_sub hl [1, 0] rfl) hf
        · have hf := zif_n c10 hf
          refine lv_aload_n hx hb dX4_costText_45 rfl (lv_at hl 1 rfl) ?_
          refine lv_iconst (v := 0) hx hb dX4_costText_46 (by decide) ?_
          refine lv_bipush (v := 50) hx hb dX4_costText_47 (by decide) ?_
          obtain ⟨q13, eq13, hf⟩ := zbi hf
          refine z_callV (n := 2) (rest := []) (st1 := [.int q13.1]) (c0 := 4) (i0 := 0) (hZ.2.1 (4, 0) (by decide)) (by rfl) S hG hS hZ (fun _ _ h => h) (c_X4_takeNumber l D aC zs A nl ad q8.2 0 50 q13.1 q13.2 eq13) zw_403 zw_404 zw_405 zw_27 zw_406 (by decide +kernel) ⟨rfl, rfl⟩ ⟨(Nat.le_of_ble_eq_true rfl), (Nat.le_of_ble_eq_true rfl)⟩ hl.1 rfl (by rfl) (by rfl) (Nat.le_of_ble_eq_true rfl) dX4_costText_49 ⟨Nat.zero_le _, Nat.zero_le _⟩ (fun H locs hz14 hG hS => ?_)
          refine lv_if_ne (tgt := 57) hx hb dX4_costText_52 (by decide) (fun c15 => ?_) (fun c15 => ?_)
          · have hf := zif_n c15 hf
            refine lv_aload_n hx hb dX4_costText_57 rfl (lv_at hl 1 rfl) ?_
            refine z_get (c0 := 4) (i0 := 0) (k0 := 7) (T := TX4) (v := va_rf (Option.map (fun j => ad 0 j 0) (zR q13.2 4 0 7))) S hG (hZ.2.1 (4, 0) (by decide)) rfl inlX4 (by decide) rfl zw_117 rfl dX4_costText_58 ?_
            rcases hE17 : (zR q13.2 4 0 7) with _ | j16
            · have hf := znu_n0 hE17 hf
              refine W.eq (g2 := F0 m 61 ls [.null]) (by first | rfl | (rw [hE17]; rfl)) ?_
              refine lv_iconst (v := 3) hx hb dX4_costText_61 (by decide) ?_
              refine lv_aload_n hx hb dX4_costText_62 rfl (lv_at hl 1 rfl) ?_
              refine z_get (c0 := 4) (i0 := 0) (k0 := 9) (T := TX4) (v := .int (zI q13.2 4 0 9)) S hG (hZ.2.1 (4, 0) (by decide)) rfl inlX4 (by decide) rfl zw_119 rfl dX4_costText_63 ?_
              cases hf
            · have hf := znu_s0 hE17 hf
              refine W.eq (g2 := F0 m 61 ls [.ref (ad 0 j16 0)]) (by first | rfl | (rw [hE17]; rfl)) ?_
              refine lv_iconst (v := 3) hx hb dX4_costText_61 (by decide) ?_
              refine lv_aload_n hx hb dX4_costText_62 rfl (lv_at hl 1 rfl) ?_
              refine z_get (c0 := 4) (i0 := 0) (k0 := 9) (T := TX4) (v := .int (zI q13.2 4 0 9)) S hG (hZ.2.1 (4, 0) (by decide)) rfl inlX4 (by decide) rfl zw_119 rfl dX4_costText_63 ?_
              obtain ⟨σ18, eσ18, hf⟩ := zbi hf
              refine z_callV (n := 2) (rest := []) (st1 := []) (c0 := 0) (i0 := j16) ((fun j h => hG.2.2.2.1 4 0 7 j rfl h) j16 hE17) (by rfl) S hG hS hZ (fun _ _ h => h) (c_X0_setTerm l D aC zs A nl ad q13.2 j16 3 (zI q13.2 4 0 9) σ18 ((fun j h => hG.2.2.2.1 4 0 7 j rfl h) j16 hE17) eσ18) zw_439 zw_440 zw_441 zw_76 zw_442 (by decide +kernel) ⟨rfl, rfl⟩ ⟨(Nat.le_of_ble_eq_true rfl), (Nat.le_of_ble_eq_true rfl)⟩ hl.1 rfl (by rfl) (by rfl) (Nat.le_of_ble_eq_true rfl) dX4_costText_66 ⟨Nat.zero_le _, Nat.zero_le _⟩ (fun H locs hz19 hG hS => ?_)
              exact KJ69 (zI q5.2 4 0 9) σ18 H locs ls hG hS (lv_sub hl [1, 0] rfl) hf
          · have hf := zif_p c15 hf
            refine lv_iconst (v := 0) hx hb dX4_costText_55 (by decide) ?_
            obtain ⟨hq1, hq2⟩ := Prod.mk.inj (Option.some.inj hf)
            subst hq1
            subst hq2
            exact z_zret S hG hS hlocks (Or.inl rfl) hr dX4_costText_56
      · have hf := zif_p c7 hf
        refine lv_iconst (v := 0) hx hb dX4_costText_29 (by decide) ?_
        obtain ⟨hq1, hq2⟩ := Prod.mk.inj (Option.some.inj hf)
        subst hq1
        subst hq2
        exact z_zret S hG hS hlocks (Or.inl rfl) hr dX4_costText_30
  exact hK0 _ _ ls hG hS hl hf
set_option maxRecDepth 100000 in
set_option maxHeartbeats 4000000 in
theorem c_X4_isSign (l : Launch) (D : va_G) (aC : Nat → ClassId) (zs : Nat × Nat) (A : Nat → Prop) (nl : zNL) (ad : Nat → Nat → Nat → Nat) (σ : zM) (x1 : Int32) (r : Int32)  (hf : f_X4_isSign σ x1 = some r) : Met l yX4_isSign (Cond.code yX4_isSign cX4_isSign 2 (some .boolean) :: wsL_law) ({ frames := 1, cells := 0, slots := 0, locals := 22 } : Room) (zP D aC zs zfX A nl ad σ [.ref (ad 4 0 0), .int x1]) (zQ (some (.int r)) (fun t => zG D aC A nl ad σ t t.heap ∧ (r = 0 ∨ r = 1)) A) 0 0 A := by
  refine Met.ofW (cc := cX4_isSign) (maxL := 2) (ret := (some .boolean)) (by decide) rfl ?_
  intro p e s m args below meth c s₁ B hml hv
  obtain ⟨rfl, hG, hZ⟩ := hv
  have hx := B.exec
  have hb := B.bytes
  have hr := B.returns
  have hts : ∀ w ∈ wsL_law, w.before ([.ref (ad 4 0 0), .int x1] : List Value).toArray s = true := fun w h => (atoms_spec B.pre) w (List.mem_cons_of_mem _ h)
  have hown : s.vm.findClass RX4 = some m.cls := findClass_of_methodNamed B.named
  have hlocks := B.notSynchronized
  have S : zS p m c cX4_isSign 2 s ([.ref (ad 4 0 0), .int x1] : List Value).toArray RX4 := ⟨hx, hb, hml, hown, hts⟩
  have hS : va_S A s.heap s.heap [] := va_S.rf
  have hl := lv_entry ([.ref (ad 4 0 0), .int x1]) (n := 2) (Nat.le_of_ble_eq_true rfl)
  rw [lg_entry_eq]
  generalize (lg_sl ([.ref (ad 4 0 0), .int x1]) ++ List.replicate (2 - (lg_sl ([.ref (ad 4 0 0), .int x1])).length) Slot.unset).toArray = ls at hl ⊢
  have hl : lv_has ls 2 [(0, .ref (ad 4 0 0)), (1, .int x1)] := hl
  generalize hargs : ([.ref (ad 4 0 0), .int x1] : List Value).toArray = args at S hts ⊢
  clear hargs
  have hK0 : ∀ (H : Heap) (locs : List Loc) (ls : Array Slot), zG D aC A nl ad σ s H → va_S A s.heap H locs → lv_has ls 2 [(0, .ref (ad 4 0 0)), (1, .int x1)] → f_X4_isSign σ x1 = some r → zWk p l e ({ frames := 1, cells := 0, slots := 0, locals := 22 } : Room) s m args below meth c A (some (.int r)) (fun t => zG D aC A nl ad σ t t.heap ∧ (r = 0 ∨ r = 1)) H locs (F0 m 0 ls []) := by
    intro H locs ls hG hS hl hf
    unfold f_X4_isSign at hf
    refine lv_aload_n hx hb dX4_isSign_0 rfl (lv_at hl 0 rfl) ?_
    refine lv_iconst (v := 4) hx hb dX4_isSign_1 (by decide) ?_
    refine lv_iload_n hx hb dX4_isSign_2 rfl (lv_at hl 1 rfl) ?_
    obtain ⟨r1, er1, hf⟩ := zbi hf
    refine z_callV (n := 2) (rest := []) (st1 := [.int r1]) (c0 := 4) (i0 := 0) (hZ.2.1 (4, 0) (by decide)) (by rfl) S hG hS hZ (fun _ _ h => h) (c_X4_isToken l D aC zs A nl ad σ 4 x1 r1 er1) zw_399 zw_400 zw_401 zw_27 zw_402 (by decide +kernel) ⟨rfl, rfl⟩ ⟨(Nat.le_of_ble_eq_true rfl), (Nat.le_of_ble_eq_true rfl)⟩ hl.1 rfl (by rfl) (by rfl) (Nat.le_of_ble_eq_true rfl) dX4_isSign_3 ⟨Nat.zero_le _, Nat.zero_le _⟩ (fun H locs hz2 hG hS => ?_)
    have hq := (Option.some.inj hf)
    subst hq
    exact z_zret S hG hS hlocks hz2 hr dX4_isSign_6
  exact hK0 _ _ ls hG hS hl hf
set_option maxRecDepth 100000 in
set_option maxHeartbeats 4000000 in
theorem c_X4_comparison (l : Launch) (D : va_G) (aC : Nat → ClassId) (zs : Nat × Nat) (A : Nat → Prop) (nl : zNL) (ad : Nat → Nat → Nat → Nat) (σ : zM)  (r : Int32) (σ' : zM)  (hf : f_X4_comparison σ = some (r, σ')) : Met l yX4_comparison (Cond.code yX4_comparison cX4_comparison 3 (some .boolean) :: wsL_law) ({ frames := 2, cells := 0, slots := 0, locals := 44 } : Room) (zP D aC zs zfX A nl ad σ [.ref (ad 4 0 0)]) (zQ (some (.int r)) (fun t => zG D aC A nl ad σ' t t.heap ∧ (r = 0 ∨ r = 1)) A) 0 0 A := by
  refine Met.ofW (cc := cX4_comparison) (maxL := 3) (ret := (some .boolean)) (by decide) rfl ?_
  intro p e s m args below meth c s₁ B hml hv
  obtain ⟨rfl, hG, hZ⟩ := hv
  have hx := B.exec
  have hb := B.bytes
  have hr := B.returns
  have hts : ∀ w ∈ wsL_law, w.before ([.ref (ad 4 0 0)] : List Value).toArray s = true := fun w h => (atoms_spec B.pre) w (List.mem_cons_of_mem _ h)
  have hown : s.vm.findClass RX4 = some m.cls := findClass_of_methodNamed B.named
  have hlocks := B.notSynchronized
  have S : zS p m c cX4_comparison 3 s ([.ref (ad 4 0 0)] : List Value).toArray RX4 := ⟨hx, hb, hml, hown, hts⟩
  have hS : va_S A s.heap s.heap [] := va_S.rf
  have hl := lv_entry ([.ref (ad 4 0 0)]) (n := 3) (Nat.le_of_ble_eq_true rfl)
  rw [lg_entry_eq]
  generalize (lg_sl ([.ref (ad 4 0 0)]) ++ List.replicate (3 - (lg_sl ([.ref (ad 4 0 0)])).length) Slot.unset).toArray = ls at hl ⊢
  have hl : lv_has ls 3 [(0, .ref (ad 4 0 0))] := hl
  generalize hargs : ([.ref (ad 4 0 0)] : List Value).toArray = args at S hts ⊢
  clear hargs
  have KJ65 : ∀ (y1b65 : Int32) (y2b65 : Int32)  (σb65 : zM) (H : Heap) (locs : List Loc) (ls : Array Slot), zG D aC A nl ad σb65 s H → va_S A s.heap H locs → lv_has ls 3 [(0, .ref (ad 4 0 0)), (1, .int y1b65), (2, .int y2b65)] → (f_X4_comparison_B65 σb65 y1b65 y2b65) = some (r, σ') → zWk p l e ({ frames := 2, cells := 0, slots := 0, locals := 44 } : Room) s m args below meth c A (some (.int r)) (fun t => zG D aC A nl ad σ' t t.heap ∧ (r = 0 ∨ r = 1)) H locs (F0 m 65 ls []) := by
    intro y1b65 y2b65  σb65 H locs ls hG hS hl hf
    unfold f_X4_comparison_B65 at hf
    refine lv_aload_n hx hb dX4_comparison_65 rfl (lv_at hl 0 rfl) ?_
    refine lv_iload_n hx hb dX4_comparison_66 rfl (lv_at hl 2 rfl) ?_
    obtain ⟨q11, eq11, hf⟩ := zbi hf
    refine z_callV (n := 1) (rest := []) (st1 := [.int q11.1]) (c0 := 4) (i0 := 0) (hZ.2.1 (4, 0) (by decide)) (by rfl) S hG hS hZ (fun _ _ h => h) (c_X4_takeSign l D aC zs A nl ad σb65 y2b65 q11.1 q11.2 eq11) zw_411 zw_412 zw_413 zw_27 zw_414 (by decide +kernel) ⟨rfl, rfl⟩ ⟨(Nat.le_of_ble_eq_true rfl), (Nat.le_of_ble_eq_true rfl)⟩ hl.1 rfl (by rfl) (by rfl) (Nat.le_of_ble_eq_true rfl) dX4_comparison_67 ⟨Nat.zero_le _, Nat.zero_le _⟩ (fun H locs hz12 hG hS => ?_)
    refine lv_if_eq (tgt := 106) hx hb dX4_comparison_70 (by decide) (fun c13 => ?_) (fun c13 => ?_)
    · have hf := zif_p c13 hf
      refine lv_iconst (v := 0) hx hb dX4_comparison_106 (by decide) ?_
      obtain ⟨hq1, hq2⟩ := Prod.mk.inj (Option.some.inj hf)
      subst hq1
      subst hq2
      exact z_zret S hG hS hlocks (Or.inl rfl) hr dX4_comparison_107
    · have hf := zif_n c13 hf
      refine lv_aload_n hx hb dX4_comparison_73 rfl (lv_at hl 0 rfl) ?_
      refine lv_iconst (v := 0) hx hb dX4_comparison_74 (by decide) ?_
      refine lv_ldc (v := 999999) hx hb hown (hts _ zw_369) dX4_comparison_75 ?_
      obtain ⟨q14, eq14, hf⟩ := zbi hf
      refine z_callV (n := 2) (rest := []) (st1 := [.int q14.1]) (c0 := 4) (i0 := 0) (hZ.2.1 (4, 0) (by decide)) (by rfl) S hG hS hZ (fun _ _ h => h) (c_X4_takeNumber l D aC zs A nl ad q11.2 0 999999 q14.1 q14.2 eq14) zw_403 zw_404 zw_405 zw_27 zw_406 (by decide +kernel) ⟨rfl, rfl⟩ ⟨(Nat.le_of_ble_eq_true rfl), (Nat.le_of_ble_eq_true rfl)⟩ hl.1 rfl (by rfl) (by rfl) (Nat.le_of_ble_eq_true rfl) dX4_comparison_77 ⟨Nat.zero_le _, Nat.zero_le _⟩ (fun H locs hz15 hG hS => ?_)
      refine lv_if_eq (tgt := 106) hx hb dX4_comparison_80 (by decide) (fun c16 => ?_) (fun c16 => ?_)
      · have hf := zif_p c16 hf
        refine lv_iconst (v := 0) hx hb dX4_comparison_106 (by decide) ?_
        obtain ⟨hq1, hq2⟩ := Prod.mk.inj (Option.some.inj hf)
        subst hq1
        subst hq2
        exact z_zret S hG hS hlocks (Or.inl rfl) hr dX4_comparison_107
      · have hf := zif_n c16 hf
        refine lv_aload_n hx hb dX4_comparison_83 rfl (lv_at hl 0 rfl) ?_
        refine z_get (c0 := 4) (i0 := 0) (k0 := 7) (T := TX4) (v := va_rf (Option.map (fun j => ad 0 j 0) (zR q14.2 4 0 7))) S hG (hZ.2.1 (4, 0) (by decide)) rfl inlX4 (by decide) rfl zw_117 rfl dX4_comparison_84 ?_
        rcases hE18 : (zR q14.2 4 0 7) with _ | j17
        · have hf := znu_n0 hE18 hf
          refine W.eq (g2 := F0 m 87 ls [.null]) (by first | rfl | (rw [hE18]; rfl)) ?_
          refine lv_iload_n hx hb dX4_comparison_87 rfl (lv_at hl 1 rfl) ?_
          refine lv_iload_n hx hb dX4_comparison_88 rfl (lv_at hl 2 rfl) ?_
          refine lv_aload_n hx hb dX4_comparison_89 rfl (lv_at hl 0 rfl) ?_
          refine z_get (c0 := 4) (i0 := 0) (k0 := 9) (T := TX4) (v := .int (zI q14.2 4 0 9)) S hG (hZ.2.1 (4, 0) (by decide)) rfl inlX4 (by decide) rfl zw_119 rfl dX4_comparison_90 ?_
          refine z_callS (n := 3) (rest := [.null]) (st1 := [.int (f_X0_comparison y1b65 y2b65 (zI q14.2 4 0 9)), .null]) S hG hS hZ (fun _ _ h => h) (c_X0_comparison l D aC zs A nl ad q14.2 y1b65 y2b65 (zI q14.2 4 0 9) (f_X0_comparison y1b65 y2b65 (zI q14.2 4 0 9)) rfl) zw_476 zw_477 zw_76 zw_478 (by decide +kernel) ⟨rfl, rfl⟩ ⟨(Nat.le_of_ble_eq_true rfl), (Nat.le_of_ble_eq_true rfl)⟩ hl.1 rfl (by rfl) (by rfl) (Nat.le_of_ble_eq_true rfl) dX4_comparison_93 ⟨Nat.zero_le _, Nat.zero_le _⟩ (fun H locs hz19 hG hS => ?_)
          cases hf
        · have hf := znu_s0 hE18 hf
          refine W.eq (g2 := F0 m 87 ls [.ref (ad 0 j17 0)]) (by first | rfl | (rw [hE18]; rfl)) ?_
          refine lv_iload_n hx hb dX4_comparison_87 rfl (lv_at hl 1 rfl) ?_
          refine lv_iload_n hx hb dX4_comparison_88 rfl (lv_at hl 2 rfl) ?_
          refine lv_aload_n hx hb dX4_comparison_89 rfl (lv_at hl 0 rfl) ?_
          refine z_get (c0 := 4) (i0 := 0) (k0 := 9) (T := TX4) (v := .int (zI q14.2 4 0 9)) S hG (hZ.2.1 (4, 0) (by decide)) rfl inlX4 (by decide) rfl zw_119 rfl dX4_comparison_90 ?_
          refine z_callS (n := 3) (rest := [.ref (ad 0 j17 0)]) (st1 := [.int (f_X0_comparison y1b65 y2b65 (zI q14.2 4 0 9)), .ref (ad 0 j17 0)]) S hG hS hZ (fun _ _ h => h) (c_X0_comparison l D aC zs A nl ad q14.2 y1b65 y2b65 (zI q14.2 4 0 9) (f_X0_comparison y1b65 y2b65 (zI q14.2 4 0 9)) rfl) zw_476 zw_477 zw_76 zw_478 (by decide +kernel) ⟨rfl, rfl⟩ ⟨(Nat.le_of_ble_eq_true rfl), (Nat.le_of_ble_eq_true rfl)⟩ hl.1 rfl (by rfl) (by rfl) (Nat.le_of_ble_eq_true rfl) dX4_comparison_93 ⟨Nat.zero_le _, Nat.zero_le _⟩ (fun H locs hz20 hG hS => ?_)
          obtain ⟨q21, eq21, hf⟩ := zbi hf
          refine z_callV (n := 1) (rest := []) (st1 := [.int q21.1]) (c0 := 0) (i0 := j17) ((fun j h => hG.2.2.2.1 4 0 7 j rfl h) j17 hE18) (by rfl) S hG hS hZ (fun _ _ h => h) (c_X0_emit l D aC zs A nl ad q14.2 j17 (f_X0_comparison y1b65 y2b65 (zI q14.2 4 0 9)) q21.1 q21.2 ((fun j h => hG.2.2.2.1 4 0 7 j rfl h) j17 hE18) eq21) zw_459 zw_460 zw_461 zw_76 zw_462 (by decide +kernel) ⟨rfl, rfl⟩ ⟨(Nat.le_of_ble_eq_true rfl), (Nat.le_of_ble_eq_true rfl)⟩ hl.1 rfl (by rfl) (by rfl) (Nat.le_of_ble_eq_true rfl) dX4_comparison_96 ⟨Nat.zero_le _, Nat.zero_le _⟩ (fun H locs hz22 hG hS => ?_)
          refine lv_if_eq (tgt := 106) hx hb dX4_comparison_99 (by decide) (fun c23 => ?_) (fun c23 => ?_)
          · have hf := zif_p c23 hf
            refine lv_iconst (v := 0) hx hb dX4_comparison_106 (by decide) ?_
            obtain ⟨hq1, hq2⟩ := Prod.mk.inj (Option.some.inj hf)
            subst hq1
            subst hq2
            exact z_zret S hG hS hlocks (Or.inl rfl) hr dX4_comparison_107
          · have hf := zif_n c23 hf
            refine lv_iconst (v := 1) hx hb dX4_comparison_102 (by decide) ?_
            refine lv_goto (tgt := 107) hx hb dX4_comparison_103 (by decide) ?_
            obtain ⟨hq1, hq2⟩ := Prod.mk.inj (Option.some.inj hf)
            subst hq1
            subst hq2
            exact z_zret S hG hS hlocks (Or.inr rfl) hr dX4_comparison_107
  have KJ25 : ∀ (y1b25 : Int32)  (σb25 : zM) (H : Heap) (locs : List Loc) (ls : Array Slot), zG D aC A nl ad σb25 s H → va_S A s.heap H locs → lv_has ls 3 [(0, .ref (ad 4 0 0)), (1, .int y1b25)] → (f_X4_comparison_B25 σb25 y1b25) = some (r, σ') → zWk p l e ({ frames := 2, cells := 0, slots := 0, locals := 44 } : Room) s m args below meth c A (some (.int r)) (fun t => zG D aC A nl ad σ' t t.heap ∧ (r = 0 ∨ r = 1)) H locs (F0 m 25 ls []) := by
    intro y1b25  σb25 H locs ls hG hS hl hf
    unfold f_X4_comparison_B25 at hf
    refine lv_aload_n hx hb dX4_comparison_25 rfl (lv_at hl 0 rfl) ?_
    refine lv_dup hx hb dX4_comparison_26 rfl ?_
    refine z_get (c0 := 4) (i0 := 0) (k0 := 8) (T := TX4) (v := .int (zI σb25 4 0 8)) S hG (hZ.2.1 (4, 0) (by decide)) rfl inlX4 (by decide) rfl zw_118 rfl dX4_comparison_27 ?_
    refine lv_iconst (v := 1) hx hb dX4_comparison_30 (by decide) ?_
    refine lv_iadd hx hb dX4_comparison_31 ?_
    refine z_putI (c0 := 4) (i0 := 0) (k0 := 8) (T := TX4) S hG hS tyX4 tyX4_ok nmX4 (hZ.2.1 (4, 0) (by decide)) rfl inlX4 (by decide) rfl rfl zw_118 (by decide +kernel) rfl dX4_comparison_32 (fun H locs hG hS => ?_)
    obtain ⟨σ4, eσ4, hf⟩ := zlt_s hf
    rw [← eσ4] at hG
    refine lv_bipush (v := 61) hx hb dX4_comparison_35 (by decide) ?_
    refine lv_istore_n (lv' := [(2, .int 61), (0, .ref (ad 4 0 0)), (1, .int y1b25)]) hx hb dX4_comparison_37 rfl hl (by decide) rfl (fun ls hl => ?_)
    refine lv_aload_n hx hb dX4_comparison_38 rfl (lv_at hl 1 rfl) ?_
    refine lv_bipush (v := 60) hx hb dX4_comparison_39 (by decide) ?_
    obtain ⟨r5, er5, hf⟩ := zbi hf
    refine z_callV (n := 1) (rest := []) (st1 := [.int r5]) (c0 := 4) (i0 := 0) (hZ.2.1 (4, 0) (by decide)) (by rfl) S hG hS hZ (fun _ _ h => h) (c_X4_isSign l D aC zs A nl ad σ4 60 r5 er5) zw_468 zw_469 zw_470 zw_27 zw_471 (by decide +kernel) ⟨rfl, rfl⟩ ⟨(Nat.le_of_ble_eq_true rfl), (Nat.le_of_ble_eq_true rfl)⟩ hl.1 rfl (by rfl) (by rfl) (Nat.le_of_ble_eq_true rfl) dX4_comparison_41 ⟨Nat.zero_le _, Nat.zero_le _⟩ (fun H locs hz6 hG hS => ?_)
    refine lv_if_eq (tgt := 53) hx hb dX4_comparison_44 (by decide) (fun c7 => ?_) (fun c7 => ?_)
    · have hf := zif_p c7 hf
      refine lv_aload_n hx hb dX4_comparison_53 rfl (lv_at hl 1 rfl) ?_
      refine lv_bipush (v := 62) hx hb dX4_comparison_54 (by decide) ?_
      obtain ⟨r8, er8, hf⟩ := zbi hf
      refine z_callV (n := 1) (rest := []) (st1 := [.int r8]) (c0 := 4) (i0 := 0) (hZ.2.1 (4, 0) (by decide)) (by rfl) S hG hS hZ (fun _ _ h => h) (c_X4_isSign l D aC zs A nl ad σ4 62 r8 er8) zw_468 zw_469 zw_470 zw_27 zw_471 (by decide +kernel) ⟨rfl, rfl⟩ ⟨(Nat.le_of_ble_eq_true rfl), (Nat.le_of_ble_eq_true rfl)⟩ hl.1 rfl (by rfl) (by rfl) (Nat.le_of_ble_eq_true rfl) dX4_comparison_56 ⟨Nat.zero_le _, Nat.zero_le _⟩ (fun H locs hz9 hG hS => ?_)
      refine lv_if_eq (tgt := 65) hx hb dX4_comparison_59 (by decide) (fun c10 => ?_) (fun c10 => ?_)
      · have hf := zif_p c10 hf
        exact KJ65 y1b25 61 σ4 H locs ls hG hS (lv_sub hl [1, 2, 0] rfl) hf
      · have hf := zif_n c10 hf
        refine lv_bipush (v := 62) hx hb dX4_comparison_62 (by decide) ?_
        refine lv_istore_n (lv' := [(2, .int 62), (0, .ref (ad 4 0 0)), (1, .int y1b25)]) hx hb dX4_comparison_64 rfl hl (by decide) rfl (fun ls hl => ?_)
        exact KJ65 y1b25 62 σ4 H locs ls hG hS (lv_sub hl [1, 2, 0] rfl) hf
    · have hf := zif_n c7 hf
      refine lv_bipush (v := 60) hx hb dX4_comparison_47 (by decide) ?_
      refine lv_istore_n (lv' := [(2, .int 60), (0, .ref (ad 4 0 0)), (1, .int y1b25)]) hx hb dX4_comparison_49 rfl hl (by decide) rfl (fun ls hl => ?_)
      refine lv_goto (tgt := 65) hx hb dX4_comparison_50 (by decide) ?_
      exact KJ65 y1b25 60 σ4 H locs ls hG hS (lv_sub hl [1, 2, 0] rfl) hf
  have hK0 : ∀ (H : Heap) (locs : List Loc) (ls : Array Slot), zG D aC A nl ad σ s H → va_S A s.heap H locs → lv_has ls 3 [(0, .ref (ad 4 0 0))] → f_X4_comparison σ = some (r, σ') → zWk p l e ({ frames := 2, cells := 0, slots := 0, locals := 44 } : Room) s m args below meth c A (some (.int r)) (fun t => zG D aC A nl ad σ' t t.heap ∧ (r = 0 ∨ r = 1)) H locs (F0 m 0 ls []) := by
    intro H locs ls hG hS hl hf
    unfold f_X4_comparison at hf
    refine lv_aload_n hx hb dX4_comparison_0 rfl (lv_at hl 0 rfl) ?_
    obtain ⟨r1, er1, hf⟩ := zbi hf
    refine z_callV (n := 0) (rest := []) (st1 := [.int r1]) (c0 := 4) (i0 := 0) (hZ.2.1 (4, 0) (by decide)) (by rfl) S hG hS hZ (fun _ _ h => h) (c_X4_keyword l D aC zs A nl ad σ r1 er1) zw_370 zw_371 zw_372 zw_27 zw_373 (by decide +kernel) ⟨rfl, rfl⟩ ⟨(Nat.le_of_ble_eq_true rfl), (Nat.le_of_ble_eq_true rfl)⟩ hl.1 rfl (by rfl) (by rfl) (Nat.le_of_ble_eq_true rfl) dX4_comparison_1 ⟨Nat.zero_le _, Nat.zero_le _⟩ (fun H locs hz2 hG hS => ?_)
    refine lv_istore_n (lv' := [(1, .int r1), (0, .ref (ad 4 0 0))]) hx hb dX4_comparison_4 rfl hl (by decide) rfl (fun ls hl => ?_)
    refine lv_iload_n hx hb dX4_comparison_5 rfl (lv_at hl 0 rfl) ?_
    refine lv_bipush (v := 7) hx hb dX4_comparison_6 (by decide) ?_
    refine lv_icmp_eq (tgt := 25) hx hb dX4_comparison_8 (by decide) (fun c3 => ?_) (fun c3 => ?_)
    · have hf := zif_p c3 hf
      exact KJ25 r1 σ H locs ls hG hS (lv_sub hl [1, 0] rfl) hf
    · have hf := zif_n c3 hf
      refine lv_iload_n hx hb dX4_comparison_11 rfl (lv_at hl 0 rfl) ?_
      refine lv_bipush (v := 29) hx hb dX4_comparison_12 (by decide) ?_
      refine lv_icmp_lt (tgt := 23) hx hb dX4_comparison_14 (by decide) (fun c24 => ?_) (fun c24 => ?_)
      · have hf := zif_p c24 hf
        refine lv_iconst (v := 0) hx hb dX4_comparison_23 (by decide) ?_
        obtain ⟨hq1, hq2⟩ := Prod.mk.inj (Option.some.inj hf)
        subst hq1
        subst hq2
        exact z_zret S hG hS hlocks (Or.inl rfl) hr dX4_comparison_24
      · have hf := zif_n c24 hf
        refine lv_iload_n hx hb dX4_comparison_17 rfl (lv_at hl 0 rfl) ?_
        refine lv_bipush (v := 35) hx hb dX4_comparison_18 (by decide) ?_
        refine lv_icmp_le (tgt := 25) hx hb dX4_comparison_20 (by decide) (fun c25 => ?_) (fun c25 => ?_)
        · have hf := zif_p c25 hf
          exact KJ25 r1 σ H locs ls hG hS (lv_sub hl [1, 0] rfl) hf
        · have hf := zif_n c25 hf
          refine lv_iconst (v := 0) hx hb dX4_comparison_23 (by decide) ?_
          obtain ⟨hq1, hq2⟩ := Prod.mk.inj (Option.some.inj hf)
          subst hq1
          subst hq2
          exact z_zret S hG hS hlocks (Or.inl rfl) hr dX4_comparison_24
  exact hK0 _ _ ls hG hS hl hf
set_option maxRecDepth 100000 in
set_option maxHeartbeats 4000000 in
theorem c_X4_choiceText (l : Launch) (D : va_G) (aC : Nat → ClassId) (zs : Nat × Nat) (A : Nat → Prop) (nl : zNL) (ad : Nat → Nat → Nat → Nat) (σ : zM) (x1 : Int32) (x2 : Int32) (x3 : Int32) (x4 : Int32) (r : Int32) (σ' : zM)  (hf : f_X4_choiceText σ x1 x2 x3 x4 = some (r, σ')) : Met l yX4_choiceText (Cond.code yX4_choiceText cX4_choiceText 6 (some .boolean) :: wsL_law) ({ frames := 3, cells := 0, slots := 0, locals := 68 } : Room) (zP D aC zs zfX A nl ad σ [.ref (ad 4 0 0), .int x1, .int x2, .int x3, .int x4]) (zQ (some (.int r)) (fun t => zG D aC A nl ad σ' t t.heap ∧ (r = 0 ∨ r = 1)) A) 0 0 A := by
  refine Met.ofW (cc := cX4_choiceText) (maxL := 6) (ret := (some .boolean)) (by decide) rfl ?_
  intro p e s m args below meth c s₁ B hml hv
  obtain ⟨rfl, hG, hZ⟩ := hv
  have hx := B.exec
  have hb := B.bytes
  have hr := B.returns
  have hts : ∀ w ∈ wsL_law, w.before ([.ref (ad 4 0 0), .int x1, .int x2, .int x3, .int x4] : List Value).toArray s = true := fun w h => (atoms_spec B.pre) w (List.mem_cons_of_mem _ h)
  have hown : s.vm.findClass RX4 = some m.cls := findClass_of_methodNamed B.named
  have hlocks := B.notSynchronized
  have S : zS p m c cX4_choiceText 6 s ([.ref (ad 4 0 0), .int x1, .int x2, .int x3, .int x4] : List Value).toArray RX4 := ⟨hx, hb, hml, hown, hts⟩
  have hS : va_S A s.heap s.heap [] := va_S.rf
  have hl := lv_entry ([.ref (ad 4 0 0), .int x1, .int x2, .int x3, .int x4]) (n := 6) (Nat.le_of_ble_eq_true rfl)
  rw [lg_entry_eq]
  generalize (lg_sl ([.ref (ad 4 0 0), .int x1, .int x2, .int x3, .int x4]) ++ List.replicate (6 - (lg_sl ([.ref (ad 4 0 0), .int x1, .int x2, .int x3, .int x4])).length) Slot.unset).toArray = ls at hl ⊢
  have hl : lv_has ls 6 [(0, .ref (ad 4 0 0)), (1, .int x1), (2, .int x2), (3, .int x3), (4, .int x4)] := hl
  generalize hargs : ([.ref (ad 4 0 0), .int x1, .int x2, .int x3, .int x4] : List Value).toArray = args at S hts ⊢
  clear hargs
  have hK0 : ∀ (H : Heap) (locs : List Loc) (ls : Array Slot), zG D aC A nl ad σ s H → va_S A s.heap H locs → lv_has ls 6 [(0, .ref (ad 4 0 0)), (1, .int x1), (2, .int x2), (3, .int x3), (4, .int x4)] → f_X4_choiceText σ x1 x2 x3 x4 = some (r, σ') → zWk p l e ({ frames := 3, cells := 0, slots := 0, locals := 68 } : Room) s m args below meth c A (some (.int r)) (fun t => zG D aC A nl ad σ' t t.heap ∧ (r = 0 ∨ r = 1)) H locs (F0 m 0 ls []) := by
    intro H locs ls hG hS hl hf
    unfold f_X4_choiceText at hf
    refine lv_aload_n hx hb dX4_choiceText_0 rfl (lv_at hl 0 rfl) ?_
    refine lv_dup hx hb dX4_choiceText_1 rfl ?_
    refine z_get (c0 := 4) (i0 := 0) (k0 := 8) (T := TX4) (v := .int (zI σ 4 0 8)) S hG (hZ.2.1 (4, 0) (by decide)) rfl inlX4 (by decide) rfl zw_118 rfl dX4_choiceText_2 ?_
    refine lv_iconst (v := 1) hx hb dX4_choiceText_5 (by decide) ?_
    refine lv_iadd hx hb dX4_choiceText_6 ?_
    refine z_putI (c0 := 4) (i0 := 0) (k0 := 8) (T := TX4) S hG hS tyX4 tyX4_ok nmX4 (hZ.2.1 (4, 0) (by decide)) rfl inlX4 (by decide) rfl rfl zw_118 (by decide +kernel) rfl dX4_choiceText_7 (fun H locs hG hS => ?_)
    obtain ⟨σ1, eσ1, hf⟩ := zlt_s hf
    rw [← eσ1] at hG
    refine lv_aload_n hx hb dX4_choiceText_10 rfl (lv_at hl 0 rfl) ?_
    obtain ⟨r2, er2, hf⟩ := zbi hf
    refine z_callV (n := 0) (rest := []) (st1 := [.int r2]) (c0 := 4) (i0 := 0) (hZ.2.1 (4, 0) (by decide)) (by rfl) S hG hS hZ (fun _ _ h => h) (c_X4_keyword l D aC zs A nl ad σ1 r2 er2) zw_370 zw_371 zw_372 zw_27 zw_373 (by decide +kernel) ⟨rfl, rfl⟩ ⟨(Nat.le_of_ble_eq_true rfl), (Nat.le_of_ble_eq_true rfl)⟩ hl.1 rfl (by rfl) (by rfl) (Nat.le_of_ble_eq_true rfl) dX4_choiceText_11 ⟨Nat.zero_le _, Nat.zero_le _⟩ (fun H locs hz3 hG hS => ?_)
    refine lv_istore (lv' := [(5, .int r2), (0, .ref (ad 4 0 0)), (1, .int x1), (2, .int x2), (3, .int x3), (4, .int x4)]) hx hb dX4_choiceText_14 hl (by decide) rfl (fun ls hl => ?_)
    refine lv_iload hx hb dX4_choiceText_16 (lv_at hl 0 rfl) ?_
    refine lv_iload_n hx hb dX4_choiceText_18 rfl (lv_at hl 4 rfl) ?_
    refine lv_icmp_lt (tgt := 29) hx hb dX4_choiceText_19 (by decide) (fun c4 => ?_) (fun c4 => ?_)
    · have hf := zif_p c4 hf
      refine lv_iconst (v := 0) hx hb dX4_choiceText_29 (by decide) ?_
      obtain ⟨hq1, hq2⟩ := Prod.mk.inj (Option.some.inj hf)
      subst hq1
      subst hq2
      exact z_zret S hG hS hlocks (Or.inl rfl) hr dX4_choiceText_30
    · have hf := zif_n c4 hf
      refine lv_iload hx hb dX4_choiceText_22 (lv_at hl 0 rfl) ?_
      refine lv_iload hx hb dX4_choiceText_24 (lv_at hl 5 rfl) ?_
      refine lv_icmp_le (tgt := 31) hx hb dX4_choiceText_26 (by decide) (fun c5 => ?_) (fun c5 => ?_)
      · have hf := zif_p c5 hf
        refine lv_aload_n hx hb dX4_choiceText_31 rfl (lv_at hl 1 rfl) ?_
        refine lv_dup hx hb dX4_choiceText_32 rfl ?_
        refine z_get (c0 := 4) (i0 := 0) (k0 := 8) (T := TX4) (v := .int (zI σ1 4 0 8)) S hG (hZ.2.1 (4, 0) (by decide)) rfl inlX4 (by decide) rfl zw_118 rfl dX4_choiceText_33 ?_
        refine lv_iconst (v := 1) hx hb dX4_choiceText_36 (by decide) ?_
        refine lv_iadd hx hb dX4_choiceText_37 ?_
        refine z_putI (c0 := 4) (i0 := 0) (k0 := 8) (T := TX4) S hG hS tyX4 tyX4_ok nmX4 (hZ.2.1 (4, 0) (by decide)) rfl inlX4 (by decide) rfl rfl zw_118 (by decide +kernel) rfl dX4_choiceText_38 (fun H locs hG hS => ?_)
        obtain ⟨σ6, eσ6, hf⟩ := zlt_s hf
        rw [← eσ6] at hG
        refine lv_aload_n hx hb dX4_choiceText_41 rfl (lv_at hl 1 rfl) ?_
        refine z_get (c0 := 4) (i0 := 0) (k0 := 7) (T := TX4) (v := va_rf (Option.map (fun j => ad 0 j 0) (zR σ6 4 0 7))) S hG (hZ.2.1 (4, 0) (by decide)) rfl inlX4 (by decide) rfl zw_117 rfl dX4_choiceText_42 ?_
        rcases hE8 : (zR σ6 4 0 7) with _ | j7
        · have hf := znu_n0 hE8 hf
          refine W.eq (g2 := F0 m 45 ls [.null]) (by first | rfl | (rw [hE8]; rfl)) ?_
          refine lv_iload_n hx hb dX4_choiceText_45 rfl (lv_at hl 3 rfl) ?_
          refine lv_iload hx hb dX4_choiceText_46 (lv_at hl 0 rfl) ?_
          refine lv_iload_n hx hb dX4_choiceText_48 rfl (lv_at hl 4 rfl) ?_
          refine lv_isub hx hb dX4_choiceText_49 ?_
          cases hf
        · have hf := znu_s0 hE8 hf
          refine W.eq (g2 := F0 m 45 ls [.ref (ad 0 j7 0)]) (by first | rfl | (rw [hE8]; rfl)) ?_
          refine lv_iload_n hx hb dX4_choiceText_45 rfl (lv_at hl 3 rfl) ?_
          refine lv_iload hx hb dX4_choiceText_46 (lv_at hl 0 rfl) ?_
          refine lv_iload_n hx hb dX4_choiceText_48 rfl (lv_at hl 4 rfl) ?_
          refine lv_isub hx hb dX4_choiceText_49 ?_
          obtain ⟨σ9, eσ9, hf⟩ := zbi hf
          refine z_callV (n := 2) (rest := []) (st1 := []) (c0 := 0) (i0 := j7) ((fun j h => hG.2.2.2.1 4 0 7 j rfl h) j7 hE8) (by rfl) S hG hS hZ (fun _ _ h => h) (c_X0_setTerm l D aC zs A nl ad σ6 j7 x2 (r2 - x3) σ9 ((fun j h => hG.2.2.2.1 4 0 7 j rfl h) j7 hE8) eσ9) zw_439 zw_440 zw_441 zw_76 zw_442 (by decide +kernel) ⟨rfl, rfl⟩ ⟨(Nat.le_of_ble_eq_true rfl), (Nat.le_of_ble_eq_true rfl)⟩ hl.1 rfl (by rfl) (by rfl) (Nat.le_of_ble_eq_true rfl) dX4_choiceText_50 ⟨Nat.zero_le _, Nat.zero_le _⟩ (fun H locs hz10 hG hS => ?_)
          refine lv_aload_n hx hb dX4_choiceText_53 rfl (lv_at hl 1 rfl) ?_
          refine lv_iload_n hx hb dX4_choiceText_54 rfl (lv_at hl 2 rfl) ?_
          refine lv_iconst (v := 0) hx hb dX4_choiceText_55 (by decide) ?_
          refine lv_iconst (v := 0) hx hb dX4_choiceText_56 (by decide) ?_
          refine lv_iconst (v := 0) hx hb dX4_choiceText_57 (by decide) ?_
          obtain ⟨q11, eq11, hf⟩ := zbi hf
          refine z_callV (n := 4) (rest := []) (st1 := [.int q11.1]) (c0 := 4) (i0 := 0) (hZ.2.1 (4, 0) (by decide)) (by rfl) S hG hS hZ (fun _ _ h => h) (c_X4_endOf l D aC zs A nl ad σ9 x1 0 0 0 q11.1 q11.2 eq11) zw_407 zw_408 zw_409 zw_27 zw_410 (by decide +kernel) ⟨rfl, rfl⟩ ⟨(Nat.le_of_ble_eq_true rfl), (Nat.le_of_ble_eq_true rfl)⟩ hl.1 rfl (by rfl) (by rfl) (Nat.le_of_ble_eq_true rfl) dX4_choiceText_58 ⟨Nat.zero_le _, Nat.zero_le _⟩ (fun H locs hz12 hG hS => ?_)
          obtain ⟨hq1, hq2⟩ := Prod.mk.inj (Option.some.inj hf)
          subst hq1
          subst hq2
          exact z_zret S hG hS hlocks hz12 hr dX4_choiceText_61
      · have hf := zif_n c5 hf
        refine lv_iconst (v := 0) hx hb dX4_choiceText_29 (by decide) ?_
        obtain ⟨hq1, hq2⟩ := Prod.mk.inj (Option.some.inj hf)
        subst hq1
        subst hq2
        exact z_zret S hG hS hlocks (Or.inl rfl) hr dX4_choiceText_30
  exact hK0 _ _ ls hG hS hl hf
set_option maxRecDepth 100000 in
set_option maxHeartbeats 4000000 in
theorem c_X4_feeText (l : Launch) (D : va_G) (aC : Nat → ClassId) (zs : Nat × Nat) (A : Nat → Prop) (nl : zNL) (ad : Nat → Nat → Nat → Nat) (σ : zM)  (r : Int32) (σ' : zM)  (hf : f_X4_feeText σ = some (r, σ')) : Met l yX4_feeText (Cond.code yX4_feeText cX4_feeText 2 (some .boolean) :: wsL_law) ({ frames := 3, cells := 0, slots := 0, locals := 68 } : Room) (zP D aC zs zfX A nl ad σ [.ref (ad 4 0 0)]) (zQ (some (.int r)) (fun t => zG D aC A nl ad σ' t t.heap ∧ (r = 0 ∨ r = 1)) A) 0 0 A := by
  refine Met.ofW (cc := cX4_feeText) (maxL := 2) (ret := (some .boolean)) (by decide) rfl ?_
  intro p e s m args below meth c s₁ B hml hv
  obtain ⟨rfl, hG, hZ⟩ := hv
  have hx := B.exec
  have hb := B.bytes
  have hr := B.returns
  have hts : ∀ w ∈ wsL_law, w.before ([.ref (ad 4 0 0)] : List Value).toArray s = true := fun w h => (atoms_spec B.pre) w (List.mem_cons_of_mem _ h)
  have hown : s.vm.findClass RX4 = some m.cls := findClass_of_methodNamed B.named
  have hlocks := B.notSynchronized
  have S : zS p m c cX4_feeText 2 s ([.ref (ad 4 0 0)] : List Value).toArray RX4 := ⟨hx, hb, hml, hown, hts⟩
  have hS : va_S A s.heap s.heap [] := va_S.rf
  have hl := lv_entry ([.ref (ad 4 0 0)]) (n := 2) (Nat.le_of_ble_eq_true rfl)
  rw [lg_entry_eq]
  generalize (lg_sl ([.ref (ad 4 0 0)]) ++ List.replicate (2 - (lg_sl ([.ref (ad 4 0 0)])).length) Slot.unset).toArray = ls at hl ⊢
  have hl : lv_has ls 2 [(0, .ref (ad 4 0 0))] := hl
  generalize hargs : ([.ref (ad 4 0 0)] : List Value).toArray = args at S hts ⊢
  clear hargs
  have KJ50 : ∀ (σb50 : zM) (H : Heap) (locs : List Loc) (ls : Array Slot), zG D aC A nl ad σb50 s H → va_S A s.heap H locs → lv_has ls 2 [(0, .ref (ad 4 0 0))] → (f_X4_feeText_B50 σb50) = some (r, σ') → zWk p l e ({ frames := 3, cells := 0, slots := 0, locals := 68 } : Room) s m args below meth c A (some (.int r)) (fun t => zG D aC A nl ad σ' t t.heap ∧ (r = 0 ∨ r = 1)) H locs (F0 m 50 ls []) := by
    intro   σb50 H locs ls hG hS hl hf
    unfold f_X4_feeText_B50 at hf
    refine lv_aload_n hx hb dX4_feeText_50 rfl (lv_at hl 0 rfl) ?_
    refine lv_bipush (v := 13) hx hb dX4_feeText_51 (by decide) ?_
    refine lv_iconst (v := 0) hx hb dX4_feeText_53 (by decide) ?_
    refine lv_iconst (v := 0) hx hb dX4_feeText_54 (by decide) ?_
    refine lv_iconst (v := 0) hx hb dX4_feeText_55 (by decide) ?_
    obtain ⟨q3, eq3, hf⟩ := zbi hf
    refine z_callV (n := 4) (rest := []) (st1 := [.int q3.1]) (c0 := 4) (i0 := 0) (hZ.2.1 (4, 0) (by decide)) (by rfl) S hG hS hZ (fun _ _ h => h) (c_X4_endOf l D aC zs A nl ad σb50 13 0 0 0 q3.1 q3.2 eq3) zw_407 zw_408 zw_409 zw_27 zw_410 (by decide +kernel) ⟨rfl, rfl⟩ ⟨(Nat.le_of_ble_eq_true rfl), (Nat.le_of_ble_eq_true rfl)⟩ hl.1 rfl (by rfl) (by rfl) (Nat.le_of_ble_eq_true rfl) dX4_feeText_56 ⟨Nat.zero_le _, Nat.zero_le _⟩ (fun H locs hz4 hG hS => ?_)
    obtain ⟨hq1, hq2⟩ := Prod.mk.inj (Option.some.inj hf)
    subst hq1
    subst hq2
    exact z_zret S hG hS hlocks hz4 hr dX4_feeText_59
  have hK0 : ∀ (H : Heap) (locs : List Loc) (ls : Array Slot), zG D aC A nl ad σ s H → va_S A s.heap H locs → lv_has ls 2 [(0, .ref (ad 4 0 0))] → f_X4_feeText σ = some (r, σ') → zWk p l e ({ frames := 3, cells := 0, slots := 0, locals := 68 } : Room) s m args below meth c A (some (.int r)) (fun t => zG D aC A nl ad σ' t t.heap ∧ (r = 0 ∨ r = 1)) H locs (F0 m 0 ls []) := by
    intro H locs ls hG hS hl hf
    unfold f_X4_feeText at hf
    refine lv_aload_n hx hb dX4_feeText_0 rfl (lv_at hl 0 rfl) ?_
    refine lv_dup hx hb dX4_feeText_1 rfl ?_
    refine z_get (c0 := 4) (i0 := 0) (k0 := 8) (T := TX4) (v := .int (zI σ 4 0 8)) S hG (hZ.2.1 (4, 0) (by decide)) rfl inlX4 (by decide) rfl zw_118 rfl dX4_feeText_2 ?_
    refine lv_iconst (v := 1) hx hb dX4_feeText_5 (by decide) ?_
    refine lv_iadd hx hb dX4_feeText_6 ?_
    refine z_putI (c0 := 4) (i0 := 0) (k0 := 8) (T := TX4) S hG hS tyX4 tyX4_ok nmX4 (hZ.2.1 (4, 0) (by decide)) rfl inlX4 (by decide) rfl rfl zw_118 (by decide +kernel) rfl dX4_feeText_7 (fun H locs hG hS => ?_)
    obtain ⟨σ1, eσ1, hf⟩ := zlt_s hf
    rw [← eσ1] at hG
    refine lv_iconst (v := 0) hx hb dX4_feeText_10 (by decide) ?_
    refine lv_istore_n (lv' := [(1, .int 0), (0, .ref (ad 4 0 0))]) hx hb dX4_feeText_11 rfl hl (by decide) rfl (fun ls hl => ?_)
    obtain ⟨t12, hw12, hfo12⟩ := zbi hf
    have KL12 : ∀ (n : Nat) (y1l12 : Int32) (σl12 : zM) (H : Heap) (locs : List Loc) (ls : Array Slot), zG D aC A nl ad σl12 s H → va_S A s.heap H locs → lv_has ls 2 [(0, .ref (ad 4 0 0)), (1, .int y1l12)] → zwh (fun (q : (Int32 × zM)) => f_X4_feeText_L12 q.1 q.2) n (y1l12, σl12) = some t12 → zWk p l e ({ frames := 3, cells := 0, slots := 0, locals := 68 } : Room) s m args below meth c A (some (.int r)) (fun t => zG D aC A nl ad σ' t t.heap ∧ (r = 0 ∨ r = 1)) H locs (F0 m 12 ls []) := by
      intro n
      induction n with
      | zero =>
        intro y1l12 σl12 H locs ls hG hS hl hw
        exact (zwh_0 hw).elim
      | succ n ih12 =>
        intro y1l12 σl12 H locs ls hG hS hl hw
        obtain ⟨rr12, hf, hk12⟩ := zwh_u hw
        have hf : f_X4_feeText_L12 y1l12 σl12 = some rr12 := hf
        unfold f_X4_feeText_L12 at hf
        refine lv_iload_n hx hb dX4_feeText_12 rfl (lv_at hl 1 rfl) ?_
        refine lv_iconst (v := 3) hx hb dX4_feeText_13 (by decide) ?_
        refine lv_icmp_ge (tgt := 50) hx hb dX4_feeText_14 (by decide) (fun c12 => ?_) (fun c12 => ?_)
        · have hf := zif_p c12 hf
          cases hf
          have hk12 : ((.inr σl12) : (zM ⊕ zM)) = t12 := hk12
          have hf := hfo12
          rw [← hk12] at hf
          have hf : (f_X4_feeText_B50 σl12) = some (r, σ') := hf
          exact KJ50 σl12 H locs ls hG hS (lv_sub hl [0] rfl) hf
        · have hf := zif_n c12 hf
          refine lv_aload_n hx hb dX4_feeText_17 rfl (lv_at hl 0 rfl) ?_
          refine lv_iconst (v := 0) hx hb dX4_feeText_18 (by decide) ?_
          refine lv_bipush (v := 100) hx hb dX4_feeText_19 (by decide) ?_
          obtain ⟨q13, eq13, hf⟩ := zbi hf
          refine z_callV (n := 2) (rest := []) (st1 := [.int q13.1]) (c0 := 4) (i0 := 0) (hZ.2.1 (4, 0) (by decide)) (by rfl) S hG hS hZ (fun _ _ h => h) (c_X4_takeNumber l D aC zs A nl ad σl12 0 100 q13.1 q13.2 eq13) zw_403 zw_404 zw_405 zw_27 zw_406 (by decide +kernel) ⟨rfl, rfl⟩ ⟨(Nat.le_of_ble_eq_true rfl), (Nat.le_of_ble_eq_true rfl)⟩ hl.1 rfl (by rfl) (by rfl) (Nat.le_of_ble_eq_true rfl) dX4_feeText_21 ⟨Nat.zero_le _, Nat.zero_le _⟩ (fun H locs hz14 hG hS => ?_)
          refine lv_if_ne (tgt := 29) hx hb dX4_feeText_24 (by decide) (fun c15 => ?_) (fun c15 => ?_)
          · have hf := zif_n c15 hf
            refine lv_aload_n hx hb dX4_feeText_29 rfl (lv_at hl 0 rfl) ?_
            refine z_get (c0 := 4) (i0 := 0) (k0 := 7) (T := TX4) (v := va_rf (Option.map (fun j => ad 0 j 0) (zR q13.2 4 0 7))) S hG (hZ.2.1 (4, 0) (by decide)) rfl inlX4 (by decide) rfl zw_117 rfl dX4_feeText_30 ?_
            rcases hE17 : (zR q13.2 4 0 7) with _ | j16
            · have hf := znu_n0 hE17 hf
              refine W.eq (g2 := F0 m 33 ls [.null]) (by first | rfl | (rw [hE17]; rfl)) ?_
              refine lv_bipush (v := 8) hx hb dX4_feeText_33 (by decide) ?_
              refine lv_iload_n hx hb dX4_feeText_35 rfl (lv_at hl 1 rfl) ?_
              refine lv_iadd hx hb dX4_feeText_36 ?_
              refine lv_aload_n hx hb dX4_feeText_37 rfl (lv_at hl 0 rfl) ?_
              refine z_get (c0 := 4) (i0 := 0) (k0 := 9) (T := TX4) (v := .int (zI q13.2 4 0 9)) S hG (hZ.2.1 (4, 0) (by decide)) rfl inlX4 (by decide) rfl zw_119 rfl dX4_feeText_38 ?_
              cases hf
            · have hf := znu_s0 hE17 hf
              refine W.eq (g2 := F0 m 33 ls [.ref (ad 0 j16 0)]) (by first | rfl | (rw [hE17]; rfl)) ?_
              refine lv_bipush (v := 8) hx hb dX4_feeText_33 (by decide) ?_
              refine lv_iload_n hx hb dX4_feeText_35 rfl (lv_at hl 1 rfl) ?_
              refine lv_iadd hx hb dX4_feeText_36 ?_
              refine lv_aload_n hx hb dX4_feeText_37 rfl (lv_at hl 0 rfl) ?_
              refine z_get (c0 := 4) (i0 := 0) (k0 := 9) (T := TX4) (v := .int (zI q13.2 4 0 9)) S hG (hZ.2.1 (4, 0) (by decide)) rfl inlX4 (by decide) rfl zw_119 rfl dX4_feeText_38 ?_
              obtain ⟨σ18, eσ18, hf⟩ := zbi hf
              refine z_callV (n := 2) (rest := []) (st1 := []) (c0 := 0) (i0 := j16) ((fun j h => hG.2.2.2.1 4 0 7 j rfl h) j16 hE17) (by rfl) S hG hS hZ (fun _ _ h => h) (c_X0_setTerm l D aC zs A nl ad q13.2 j16 (8 + y1l12) (zI q13.2 4 0 9) σ18 ((fun j h => hG.2.2.2.1 4 0 7 j rfl h) j16 hE17) eσ18) zw_439 zw_440 zw_441 zw_76 zw_442 (by decide +kernel) ⟨rfl, rfl⟩ ⟨(Nat.le_of_ble_eq_true rfl), (Nat.le_of_ble_eq_true rfl)⟩ hl.1 rfl (by rfl) (by rfl) (Nat.le_of_ble_eq_true rfl) dX4_feeText_41 ⟨Nat.zero_le _, Nat.zero_le _⟩ (fun H locs hz19 hG hS => ?_)
              refine lv_iinc (v := (y1l12 + 1)) (lv' := [(1, .int (y1l12 + 1)), (0, .ref (ad 4 0 0))]) hx hb dX4_feeText_44 hl (k := 1) rfl rfl (by decide) rfl (fun ls hl => ?_)
              refine lv_goto (tgt := 12) hx hb dX4_feeText_47 (by decide) ?_
              cases hf
              exact ih12 (y1l12 + 1) σ18 H locs ls hG hS (lv_sub hl [1, 0] rfl) hk12
          · have hf := zif_p c15 hf
            cases hf
            have hk12 : ((.inl q13.2) : (zM ⊕ zM)) = t12 := hk12
            have hf := hfo12
            rw [← hk12] at hf
            have hf : (some (0, q13.2)) = some (r, σ') := hf
            refine lv_iconst (v := 0) hx hb dX4_feeText_27 (by decide) ?_
            obtain ⟨hq1, hq2⟩ := Prod.mk.inj (Option.some.inj hf)
            subst hq1
            subst hq2
            exact z_zret S hG hS hlocks (Or.inl rfl) hr dX4_feeText_28
    exact KL12 zFu 0 σ1 H locs ls hG hS (lv_sub hl [1, 0] rfl) hw12
  exact hK0 _ _ ls hG hS hl hf
set_option maxRecDepth 100000 in
set_option maxHeartbeats 4000000 in
theorem c_X5_settle (l : Launch) (D : va_G) (aC : Nat → ClassId) (zs : Nat × Nat) (A : Nat → Prop) (nl : zNL) (ad : Nat → Nat → Nat → Nat) (σ : zM) (x1 : Int32)  (σ' : zM)  (hf : f_X5_settle σ x1 = σ') : Met l yX5_settle (Cond.code yX5_settle cX5_settle 2 none :: wsL_law) ({ frames := 0, cells := 0, slots := 0, locals := 0 } : Room) (zP D aC zs zfX A nl ad σ [.ref (ad 5 0 0), .int x1]) (zQ none (fun t => zG D aC A nl ad σ' t t.heap ∧ True) A) 0 0 A := by
  refine Met.ofW (cc := cX5_settle) (maxL := 2) (ret := none) (by decide) rfl ?_
  intro p e s m args below meth c s₁ B hml hv
  obtain ⟨rfl, hG, hZ⟩ := hv
  have hx := B.exec
  have hb := B.bytes
  have hr := B.returns
  have hts : ∀ w ∈ wsL_law, w.before ([.ref (ad 5 0 0), .int x1] : List Value).toArray s = true := fun w h => (atoms_spec B.pre) w (List.mem_cons_of_mem _ h)
  have hown : s.vm.findClass RX5 = some m.cls := findClass_of_methodNamed B.named
  have hlocks := B.notSynchronized
  have S : zS p m c cX5_settle 2 s ([.ref (ad 5 0 0), .int x1] : List Value).toArray RX5 := ⟨hx, hb, hml, hown, hts⟩
  have hS : va_S A s.heap s.heap [] := va_S.rf
  have hl := lv_entry ([.ref (ad 5 0 0), .int x1]) (n := 2) (Nat.le_of_ble_eq_true rfl)
  rw [lg_entry_eq]
  generalize (lg_sl ([.ref (ad 5 0 0), .int x1]) ++ List.replicate (2 - (lg_sl ([.ref (ad 5 0 0), .int x1])).length) Slot.unset).toArray = ls at hl ⊢
  have hl : lv_has ls 2 [(0, .ref (ad 5 0 0)), (1, .int x1)] := hl
  generalize hargs : ([.ref (ad 5 0 0), .int x1] : List Value).toArray = args at S hts ⊢
  clear hargs
  have KJ17 : ∀ (σb17 : zM) (H : Heap) (locs : List Loc) (ls : Array Slot), zG D aC A nl ad σb17 s H → va_S A s.heap H locs → lv_has ls 2 [(0, .ref (ad 5 0 0)), (1, .int x1)] → (f_X5_settle_B17 σb17 x1) = σ' → zWk p l e ({ frames := 0, cells := 0, slots := 0, locals := 0 } : Room) s m args below meth c A none (fun t => zG D aC A nl ad σ' t t.heap ∧ True) H locs (F0 m 17 ls []) := by
    intro   σb17 H locs ls hG hS hl hf
    unfold f_X5_settle_B17 at hf
    refine lv_aload_n hx hb dX5_settle_17 rfl (lv_at hl 0 rfl) ?_
    refine lv_iconst (v := 0) hx hb dX5_settle_18 (by decide) ?_
    refine z_putI (c0 := 5) (i0 := 0) (k0 := 2) (T := TX5) S hG hS tyX5 tyX5_ok nmX5 (hZ.2.1 (5, 0) (by decide)) rfl inlX5 (by decide) rfl rfl zw_69 (by decide +kernel) rfl dX5_settle_19 (fun H locs hG hS => ?_)
    obtain ⟨σ2, eσ2, hf⟩ := zlt_s hf
    rw [← eσ2] at hG
    have hq := hf
    subst hq
    exact z_vret S hG hS hlocks trivial hr dX5_settle_22
  have hK0 : ∀ (H : Heap) (locs : List Loc) (ls : Array Slot), zG D aC A nl ad σ s H → va_S A s.heap H locs → lv_has ls 2 [(0, .ref (ad 5 0 0)), (1, .int x1)] → f_X5_settle σ x1 = σ' → zWk p l e ({ frames := 0, cells := 0, slots := 0, locals := 0 } : Room) s m args below meth c A none (fun t => zG D aC A nl ad σ' t t.heap ∧ True) H locs (F0 m 0 ls []) := by
    intro H locs ls hG hS hl hf
    unfold f_X5_settle at hf
    refine lv_iload_n hx hb dX5_settle_0 rfl (lv_at hl 1 rfl) ?_
    refine lv_if_eq (tgt := 17) hx hb dX5_settle_1 (by decide) (fun c1 => ?_) (fun c1 => ?_)
    · have hf := zif_p c1 hf
      exact KJ17 σ H locs ls hG hS (lv_sub hl [0, 1] rfl) hf
    · have hf := zif_n c1 hf
      refine lv_aload_n hx hb dX5_settle_4 rfl (lv_at hl 0 rfl) ?_
      refine lv_dup hx hb dX5_settle_5 rfl ?_
      refine z_get (c0 := 5) (i0 := 0) (k0 := 1) (T := TX5) (v := .int (zI σ 5 0 1)) S hG (hZ.2.1 (5, 0) (by decide)) rfl inlX5 (by decide) rfl zw_68 rfl dX5_settle_6 ?_
      refine lv_aload_n hx hb dX5_settle_9 rfl (lv_at hl 0 rfl) ?_
      refine z_get (c0 := 5) (i0 := 0) (k0 := 2) (T := TX5) (v := .int (zI σ 5 0 2)) S hG (hZ.2.1 (5, 0) (by decide)) rfl inlX5 (by decide) rfl zw_69 rfl dX5_settle_10 ?_
      refine lv_iadd hx hb dX5_settle_13 ?_
      refine z_putI (c0 := 5) (i0 := 0) (k0 := 1) (T := TX5) S hG hS tyX5 tyX5_ok nmX5 (hZ.2.1 (5, 0) (by decide)) rfl inlX5 (by decide) rfl rfl zw_68 (by decide +kernel) rfl dX5_settle_14 (fun H locs hG hS => ?_)
      obtain ⟨σ3, eσ3, hf⟩ := zlt_s hf
      rw [← eσ3] at hG
      exact KJ17 σ3 H locs ls hG hS (lv_sub hl [0, 1] rfl) hf
  exact hK0 _ _ ls hG hS hl hf
set_option maxRecDepth 100000 in
set_option maxHeartbeats 4000000 in
theorem c_X5_wordOf (l : Launch) (D : va_G) (aC : Nat → ClassId) (zs : Nat × Nat) (A : Nat → Prop) (nl : zNL) (ad : Nat → Nat → Nat → Nat) (σ : zM) (x1 : Int32) (r : Int64)  (hf : f_X5_wordOf σ x1 = some r) : Met l yX5_wordOf (Cond.code yX5_wordOf cX5_wordOf 2 (some .long) :: wsL_law) ({ frames := 0, cells := 0, slots := 0, locals := 0 } : Room) (zP D aC zs zfX A nl ad σ [.ref (ad 5 0 0), .int x1]) (zQ (some (.long r)) (fun t => zG D aC A nl ad σ t t.heap ∧ True) A) 0 0 A := by
  refine Met.ofW (cc := cX5_wordOf) (maxL := 2) (ret := (some .long)) (by decide) rfl ?_
  intro p e s m args below meth c s₁ B hml hv
  obtain ⟨rfl, hG, hZ⟩ := hv
  have hx := B.exec
  have hb := B.bytes
  have hr := B.returns
  have hts : ∀ w ∈ wsL_law, w.before ([.ref (ad 5 0 0), .int x1] : List Value).toArray s = true := fun w h => (atoms_spec B.pre) w (List.mem_cons_of_mem _ h)
  have hown : s.vm.findClass RX5 = some m.cls := findClass_of_methodNamed B.named
  have hlocks := B.notSynchronized
  have S : zS p m c cX5_wordOf 2 s ([.ref (ad 5 0 0), .int x1] : List Value).toArray RX5 := ⟨hx, hb, hml, hown, hts⟩
  have hS : va_S A s.heap s.heap [] := va_S.rf
  have hl := lv_entry ([.ref (ad 5 0 0), .int x1]) (n := 2) (Nat.le_of_ble_eq_true rfl)
  rw [lg_entry_eq]
  generalize (lg_sl ([.ref (ad 5 0 0), .int x1]) ++ List.replicate (2 - (lg_sl ([.ref (ad 5 0 0), .int x1])).length) Slot.unset).toArray = ls at hl ⊢
  have hl : lv_has ls 2 [(0, .ref (ad 5 0 0)), (1, .int x1)] := hl
  generalize hargs : ([.ref (ad 5 0 0), .int x1] : List Value).toArray = args at S hts ⊢
  clear hargs
  have hK0 : ∀ (H : Heap) (locs : List Loc) (ls : Array Slot), zG D aC A nl ad σ s H → va_S A s.heap H locs → lv_has ls 2 [(0, .ref (ad 5 0 0)), (1, .int x1)] → f_X5_wordOf σ x1 = some r → zWk p l e ({ frames := 0, cells := 0, slots := 0, locals := 0 } : Room) s m args below meth c A (some (.long r)) (fun t => zG D aC A nl ad σ t t.heap ∧ True) H locs (F0 m 0 ls []) := by
    intro H locs ls hG hS hl hf
    unfold f_X5_wordOf at hf
    refine lv_iload_n hx hb dX5_wordOf_0 rfl (lv_at hl 1 rfl) ?_
    refine lv_iconst (v := 1) hx hb dX5_wordOf_1 (by decide) ?_
    refine lv_icmp_lt (tgt := 33) hx hb dX5_wordOf_2 (by decide) (fun c1 => ?_) (fun c1 => ?_)
    · have hf := zif_p c1 hf
      refine lv_lconst (v := 0) hx hb dX5_wordOf_33 (by decide) ?_
      have hq := (Option.some.inj hf)
      subst hq
      exact z_lret S hG hS hlocks trivial hr dX5_wordOf_34
    · have hf := zif_n c1 hf
      refine lv_iload_n hx hb dX5_wordOf_5 rfl (lv_at hl 1 rfl) ?_
      refine lv_aload_n hx hb dX5_wordOf_6 rfl (lv_at hl 0 rfl) ?_
      refine z_get (c0 := 5) (i0 := 0) (k0 := 1) (T := TX5) (v := .int (zI σ 5 0 1)) S hG (hZ.2.1 (5, 0) (by decide)) rfl inlX5 (by decide) rfl zw_68 rfl dX5_wordOf_7 ?_
      refine lv_icmp_gt (tgt := 33) hx hb dX5_wordOf_10 (by decide) (fun c2 => ?_) (fun c2 => ?_)
      · have hf := zif_p c2 hf
        refine lv_lconst (v := 0) hx hb dX5_wordOf_33 (by decide) ?_
        have hq := (Option.some.inj hf)
        subst hq
        exact z_lret S hG hS hlocks trivial hr dX5_wordOf_34
      · have hf := zif_n c2 hf
        refine lv_iload_n hx hb dX5_wordOf_13 rfl (lv_at hl 1 rfl) ?_
        refine lv_aload_n hx hb dX5_wordOf_14 rfl (lv_at hl 0 rfl) ?_
        refine z_get (c0 := 5) (i0 := 0) (k0 := 0) (T := TX5) (v := .ref (ad 5 0 1)) S hG (hZ.2.1 (5, 0) (by decide)) rfl inlX5 (by decide) rfl zw_67 rfl dX5_wordOf_15 ?_
        refine z_alen (c0 := 5) (i0 := 0) (k0 := 0) (n := 7) (v := 12) S hG (hZ.2.1 (5, 0) (by decide)) (by decide) rfl (by decide) (by rfl) dX5_wordOf_18 ?_
        refine lv_icmp_gt (tgt := 33) hx hb dX5_wordOf_19 (by decide) (fun c3 => ?_) (fun c3 => ?_)
        · have hf := zif_p c3 hf
          refine lv_lconst (v := 0) hx hb dX5_wordOf_33 (by decide) ?_
          have hq := (Option.some.inj hf)
          subst hq
          exact z_lret S hG hS hlocks trivial hr dX5_wordOf_34
        · have hf := zif_n c3 hf
          refine lv_aload_n hx hb dX5_wordOf_22 rfl (lv_at hl 0 rfl) ?_
          refine z_get (c0 := 5) (i0 := 0) (k0 := 0) (T := TX5) (v := .ref (ad 5 0 1)) S hG (hZ.2.1 (5, 0) (by decide)) rfl inlX5 (by decide) rfl zw_67 rfl dX5_wordOf_23 ?_
          refine lv_iload_n hx hb dX5_wordOf_26 rfl (lv_at hl 1 rfl) ?_
          refine lv_iconst (v := 1) hx hb dX5_wordOf_27 (by decide) ?_
          refine lv_isub hx hb dX5_wordOf_28 ?_
          obtain ⟨i4, hi4, hf⟩ := zbi hf
          refine z_lald (c0 := 5) (i0 := 0) (k0 := 0) S hG (hZ.2.1 (5, 0) (by decide)) (by decide) rfl hi4 dX5_wordOf_29 ?_
          refine lv_goto (tgt := 34) hx hb dX5_wordOf_30 (by decide) ?_
          have hq := (Option.some.inj hf)
          subst hq
          exact z_lret S hG hS hlocks trivial hr dX5_wordOf_34
  exact hK0 _ _ ls hG hS hl hf
set_option maxRecDepth 100000 in
set_option maxHeartbeats 4000000 in
theorem c_X6_admit (l : Launch) (D : va_G) (aC : Nat → ClassId) (zs : Nat × Nat) (A : Nat → Prop) (nl : zNL) (ad : Nat → Nat → Nat → Nat) (σ : zM) (o : Nat) (x1 : Int32)  (σ' : zM) (h_o : zin nl 6 o) (hf : f_X6_admit σ o x1 = some σ') : Met l yX6_admit (Cond.code yX6_admit cX6_admit 2 none :: wsL_law) ({ frames := 0, cells := 0, slots := 0, locals := 0 } : Room) (zP D aC zs zfX A nl ad σ [.ref (ad 6 o 0), .int x1]) (zQ none (fun t => zG D aC A nl ad σ' t t.heap ∧ True) A) 0 0 A := by
  refine Met.ofW (cc := cX6_admit) (maxL := 2) (ret := none) (by decide) rfl ?_
  intro p e s m args below meth c s₁ B hml hv
  obtain ⟨rfl, hG, hZ⟩ := hv
  have hx := B.exec
  have hb := B.bytes
  have hr := B.returns
  have hts : ∀ w ∈ wsL_law, w.before ([.ref (ad 6 o 0), .int x1] : List Value).toArray s = true := fun w h => (atoms_spec B.pre) w (List.mem_cons_of_mem _ h)
  have hown : s.vm.findClass RX6 = some m.cls := findClass_of_methodNamed B.named
  have hlocks := B.notSynchronized
  have S : zS p m c cX6_admit 2 s ([.ref (ad 6 o 0), .int x1] : List Value).toArray RX6 := ⟨hx, hb, hml, hown, hts⟩
  have hS : va_S A s.heap s.heap [] := va_S.rf
  have hl := lv_entry ([.ref (ad 6 o 0), .int x1]) (n := 2) (Nat.le_of_ble_eq_true rfl)
  rw [lg_entry_eq]
  generalize (lg_sl ([.ref (ad 6 o 0), .int x1]) ++ List.replicate (2 - (lg_sl ([.ref (ad 6 o 0), .int x1])).length) Slot.unset).toArray = ls at hl ⊢
  have hl : lv_has ls 2 [(0, .ref (ad 6 o 0)), (1, .int x1)] := hl
  generalize hargs : ([.ref (ad 6 o 0), .int x1] : List Value).toArray = args at S hts ⊢
  clear hargs
  have hK0 : ∀ (H : Heap) (locs : List Loc) (ls : Array Slot), zG D aC A nl ad σ s H → va_S A s.heap H locs → lv_has ls 2 [(0, .ref (ad 6 o 0)), (1, .int x1)] → f_X6_admit σ o x1 = some σ' → zWk p l e ({ frames := 0, cells := 0, slots := 0, locals := 0 } : Room) s m args below meth c A none (fun t => zG D aC A nl ad σ' t t.heap ∧ True) H locs (F0 m 0 ls []) := by
    intro H locs ls hG hS hl hf
    unfold f_X6_admit at hf
    refine lv_iload_n hx hb dX6_admit_0 rfl (lv_at hl 1 rfl) ?_
    refine lv_if_lt (tgt := 39) hx hb dX6_admit_1 (by decide) (fun c1 => ?_) (fun c1 => ?_)
    · have hf := zif_p c1 hf
      have hq := (Option.some.inj hf)
      subst hq
      exact z_vret S hG hS hlocks trivial hr dX6_admit_39
    · have hf := zif_n c1 hf
      refine lv_iload_n hx hb dX6_admit_4 rfl (lv_at hl 1 rfl) ?_
      refine lv_aload_n hx hb dX6_admit_5 rfl (lv_at hl 0 rfl) ?_
      refine z_get (c0 := 6) (i0 := o) (k0 := 0) (T := TX6) (v := .ref (ad 6 o 1)) S hG h_o rfl inlX6 (by decide) rfl zw_211 rfl dX6_admit_6 ?_
      refine z_alen (c0 := 6) (i0 := o) (k0 := 0) (n := 6) (v := 10) S hG h_o (by decide) rfl (by decide) (by rfl) dX6_admit_9 ?_
      refine lv_icmp_ge (tgt := 39) hx hb dX6_admit_10 (by decide) (fun c2 => ?_) (fun c2 => ?_)
      · have hf := zif_p c2 hf
        have hq := (Option.some.inj hf)
        subst hq
        exact z_vret S hG hS hlocks trivial hr dX6_admit_39
      · have hf := zif_n c2 hf
        refine lv_aload_n hx hb dX6_admit_13 rfl (lv_at hl 0 rfl) ?_
        refine z_get (c0 := 6) (i0 := o) (k0 := 0) (T := TX6) (v := .ref (ad 6 o 1)) S hG h_o rfl inlX6 (by decide) rfl zw_211 rfl dX6_admit_14 ?_
        refine lv_iload_n hx hb dX6_admit_17 rfl (lv_at hl 1 rfl) ?_
        obtain ⟨i3, hi3, hf⟩ := zbi hf
        refine z_zald (c0 := 6) (i0 := o) (k0 := 0) S hG h_o (by decide) rfl hi3 dX6_admit_18 ?_
        refine lv_if_ne (tgt := 39) hx hb dX6_admit_19 (by decide) (fun c4 => ?_) (fun c4 => ?_)
        · have hf := zif_n c4 hf
          have hq := (Option.some.inj hf)
          subst hq
          exact z_vret S hG hS hlocks trivial hr dX6_admit_39
        · have hf := zif_p c4 hf
          refine lv_aload_n hx hb dX6_admit_22 rfl (lv_at hl 0 rfl) ?_
          refine z_get (c0 := 6) (i0 := o) (k0 := 0) (T := TX6) (v := .ref (ad 6 o 1)) S hG h_o rfl inlX6 (by decide) rfl zw_211 rfl dX6_admit_23 ?_
          refine lv_iload_n hx hb dX6_admit_26 rfl (lv_at hl 1 rfl) ?_
          refine lv_iconst (v := 1) hx hb dX6_admit_27 (by decide) ?_
          obtain ⟨i5, hi5, hf⟩ := zbi hf
          refine z_zast (c0 := 6) (i0 := o) (k0 := 0) S hG hS h_o (by decide) rfl hi5 dX6_admit_28 (fun H locs hG hS => ?_)
          obtain ⟨σ6, eσ6, hf⟩ := zlt_s hf
          rw [← eσ6] at hG
          refine lv_aload_n hx hb dX6_admit_29 rfl (lv_at hl 0 rfl) ?_
          refine lv_dup hx hb dX6_admit_30 rfl ?_
          refine z_get (c0 := 6) (i0 := o) (k0 := 6) (T := TX6) (v := .int (zI σ6 6 o 6)) S hG h_o rfl inlX6 (by decide) rfl zw_217 rfl dX6_admit_31 ?_
          refine lv_iconst (v := 1) hx hb dX6_admit_34 (by decide) ?_
          refine lv_iadd hx hb dX6_admit_35 ?_
          refine z_putI (c0 := 6) (i0 := o) (k0 := 6) (T := TX6) S hG hS tyX6 tyX6_ok nmX6 h_o rfl inlX6 (by decide) rfl rfl zw_217 (by decide +kernel) rfl dX6_admit_36 (fun H locs hG hS => ?_)
          obtain ⟨σ7, eσ7, hf⟩ := zlt_s hf
          rw [← eσ7] at hG
          have hq := (Option.some.inj hf)
          subst hq
          exact z_vret S hG hS hlocks trivial hr dX6_admit_39
  exact hK0 _ _ ls hG hS hl hf
set_option maxRecDepth 100000 in
set_option maxHeartbeats 4000000 in
theorem c_X6_has (l : Launch) (D : va_G) (aC : Nat → ClassId) (zs : Nat × Nat) (A : Nat → Prop) (nl : zNL) (ad : Nat → Nat → Nat → Nat) (σ : zM) (o : Nat) (x1 : Int32) (r : Int32) (h_o : zin nl 6 o) (hf : f_X6_has σ o x1 = some r) : Met l yX6_has (Cond.code yX6_has cX6_has 2 (some .boolean) :: wsL_law) ({ frames := 0, cells := 0, slots := 0, locals := 0 } : Room) (zP D aC zs zfX A nl ad σ [.ref (ad 6 o 0), .int x1]) (zQ (some (.int r)) (fun t => zG D aC A nl ad σ t t.heap ∧ (r = 0 ∨ r = 1)) A) 0 0 A := by
  refine Met.ofW (cc := cX6_has) (maxL := 2) (ret := (some .boolean)) (by decide) rfl ?_
  intro p e s m args below meth c s₁ B hml hv
  obtain ⟨rfl, hG, hZ⟩ := hv
  have hx := B.exec
  have hb := B.bytes
  have hr := B.returns
  have hts : ∀ w ∈ wsL_law, w.before ([.ref (ad 6 o 0), .int x1] : List Value).toArray s = true := fun w h => (atoms_spec B.pre) w (List.mem_cons_of_mem _ h)
  have hown : s.vm.findClass RX6 = some m.cls := findClass_of_methodNamed B.named
  have hlocks := B.notSynchronized
  have S : zS p m c cX6_has 2 s ([.ref (ad 6 o 0), .int x1] : List Value).toArray RX6 := ⟨hx, hb, hml, hown, hts⟩
  have hS : va_S A s.heap s.heap [] := va_S.rf
  have hl := lv_entry ([.ref (ad 6 o 0), .int x1]) (n := 2) (Nat.le_of_ble_eq_true rfl)
  rw [lg_entry_eq]
  generalize (lg_sl ([.ref (ad 6 o 0), .int x1]) ++ List.replicate (2 - (lg_sl ([.ref (ad 6 o 0), .int x1])).length) Slot.unset).toArray = ls at hl ⊢
  have hl : lv_has ls 2 [(0, .ref (ad 6 o 0)), (1, .int x1)] := hl
  generalize hargs : ([.ref (ad 6 o 0), .int x1] : List Value).toArray = args at S hts ⊢
  clear hargs
  have hK0 : ∀ (H : Heap) (locs : List Loc) (ls : Array Slot), zG D aC A nl ad σ s H → va_S A s.heap H locs → lv_has ls 2 [(0, .ref (ad 6 o 0)), (1, .int x1)] → f_X6_has σ o x1 = some r → zWk p l e ({ frames := 0, cells := 0, slots := 0, locals := 0 } : Room) s m args below meth c A (some (.int r)) (fun t => zG D aC A nl ad σ t t.heap ∧ (r = 0 ∨ r = 1)) H locs (F0 m 0 ls []) := by
    intro H locs ls hG hS hl hf
    unfold f_X6_has at hf
    refine lv_iload_n hx hb dX6_has_0 rfl (lv_at hl 1 rfl) ?_
    refine lv_if_lt (tgt := 26) hx hb dX6_has_1 (by decide) (fun c1 => ?_) (fun c1 => ?_)
    · have hf := zif_p c1 hf
      refine lv_iconst (v := 0) hx hb dX6_has_26 (by decide) ?_
      have hq := (Option.some.inj hf)
      subst hq
      exact z_zret S hG hS hlocks (Or.inl rfl) hr dX6_has_27
    · have hf := zif_n c1 hf
      refine lv_iload_n hx hb dX6_has_4 rfl (lv_at hl 1 rfl) ?_
      refine lv_aload_n hx hb dX6_has_5 rfl (lv_at hl 0 rfl) ?_
      refine z_get (c0 := 6) (i0 := o) (k0 := 0) (T := TX6) (v := .ref (ad 6 o 1)) S hG h_o rfl inlX6 (by decide) rfl zw_211 rfl dX6_has_6 ?_
      refine z_alen (c0 := 6) (i0 := o) (k0 := 0) (n := 6) (v := 10) S hG h_o (by decide) rfl (by decide) (by rfl) dX6_has_9 ?_
      refine lv_icmp_ge (tgt := 26) hx hb dX6_has_10 (by decide) (fun c2 => ?_) (fun c2 => ?_)
      · have hf := zif_p c2 hf
        refine lv_iconst (v := 0) hx hb dX6_has_26 (by decide) ?_
        have hq := (Option.some.inj hf)
        subst hq
        exact z_zret S hG hS hlocks (Or.inl rfl) hr dX6_has_27
      · have hf := zif_n c2 hf
        refine lv_aload_n hx hb dX6_has_13 rfl (lv_at hl 0 rfl) ?_
        refine z_get (c0 := 6) (i0 := o) (k0 := 0) (T := TX6) (v := .ref (ad 6 o 1)) S hG h_o rfl inlX6 (by decide) rfl zw_211 rfl dX6_has_14 ?_
        refine lv_iload_n hx hb dX6_has_17 rfl (lv_at hl 1 rfl) ?_
        obtain ⟨i3, hi3, hf⟩ := zbi hf
        refine z_zald (c0 := 6) (i0 := o) (k0 := 0) S hG h_o (by decide) rfl hi3 dX6_has_18 ?_
        refine lv_if_eq (tgt := 26) hx hb dX6_has_19 (by decide) (fun c4 => ?_) (fun c4 => ?_)
        · have hf := zif_p c4 hf
          refine lv_iconst (v := 0) hx hb dX6_has_26 (by decide) ?_
          have hq := (Option.some.inj hf)
          subst hq
          exact z_zret S hG hS hlocks (Or.inl rfl) hr dX6_has_27
        · have hf := zif_n c4 hf
          refine lv_iconst (v := 1) hx hb dX6_has_22 (by decide) ?_
          refine lv_goto (tgt := 27) hx hb dX6_has_23 (by decide) ?_
          have hq := (Option.some.inj hf)
          subst hq
          exact z_zret S hG hS hlocks (Or.inr rfl) hr dX6_has_27
  exact hK0 _ _ ls hG hS hl hf
set_option maxRecDepth 100000 in
set_option maxHeartbeats 4000000 in
theorem c_X6_counts (l : Launch) (D : va_G) (aC : Nat → ClassId) (zs : Nat × Nat) (A : Nat → Prop) (nl : zNL) (ad : Nat → Nat → Nat → Nat) (σ : zM) (o : Nat) (x1 : Int32) (r : Int32) (h_o : zin nl 6 o) (hf : f_X6_counts σ o x1 = some r) : Met l yX6_counts (Cond.code yX6_counts cX6_counts 2 (some .boolean) :: wsL_law) ({ frames := 0, cells := 0, slots := 0, locals := 0 } : Room) (zP D aC zs zfX A nl ad σ [.ref (ad 6 o 0), .int x1]) (zQ (some (.int r)) (fun t => zG D aC A nl ad σ t t.heap ∧ (r = 0 ∨ r = 1)) A) 0 0 A := by
  refine Met.ofW (cc := cX6_counts) (maxL := 2) (ret := (some .boolean)) (by decide) rfl ?_
  intro p e s m args below meth c s₁ B hml hv
  obtain ⟨rfl, hG, hZ⟩ := hv
  have hx := B.exec
  have hb := B.bytes
  have hr := B.returns
  have hts : ∀ w ∈ wsL_law, w.before ([.ref (ad 6 o 0), .int x1] : List Value).toArray s = true := fun w h => (atoms_spec B.pre) w (List.mem_cons_of_mem _ h)
  have hown : s.vm.findClass RX6 = some m.cls := findClass_of_methodNamed B.named
  have hlocks := B.notSynchronized
  have S : zS p m c cX6_counts 2 s ([.ref (ad 6 o 0), .int x1] : List Value).toArray RX6 := ⟨hx, hb, hml, hown, hts⟩
  have hS : va_S A s.heap s.heap [] := va_S.rf
  have hl := lv_entry ([.ref (ad 6 o 0), .int x1]) (n := 2) (Nat.le_of_ble_eq_true rfl)
  rw [lg_entry_eq]
  generalize (lg_sl ([.ref (ad 6 o 0), .int x1]) ++ List.replicate (2 - (lg_sl ([.ref (ad 6 o 0), .int x1])).length) Slot.unset).toArray = ls at hl ⊢
  have hl : lv_has ls 2 [(0, .ref (ad 6 o 0)), (1, .int x1)] := hl
  generalize hargs : ([.ref (ad 6 o 0), .int x1] : List Value).toArray = args at S hts ⊢
  clear hargs
  have hK0 : ∀ (H : Heap) (locs : List Loc) (ls : Array Slot), zG D aC A nl ad σ s H → va_S A s.heap H locs → lv_has ls 2 [(0, .ref (ad 6 o 0)), (1, .int x1)] → f_X6_counts σ o x1 = some r → zWk p l e ({ frames := 0, cells := 0, slots := 0, locals := 0 } : Room) s m args below meth c A (some (.int r)) (fun t => zG D aC A nl ad σ t t.heap ∧ (r = 0 ∨ r = 1)) H locs (F0 m 0 ls []) := by
    intro H locs ls hG hS hl hf
    unfold f_X6_counts at hf
    refine lv_iload_n hx hb dX6_counts_0 rfl (lv_at hl 1 rfl) ?_
    refine lv_if_lt (tgt := 26) hx hb dX6_counts_1 (by decide) (fun c1 => ?_) (fun c1 => ?_)
    · have hf := zif_p c1 hf
      refine lv_iconst (v := 0) hx hb dX6_counts_26 (by decide) ?_
      have hq := (Option.some.inj hf)
      subst hq
      exact z_zret S hG hS hlocks (Or.inl rfl) hr dX6_counts_27
    · have hf := zif_n c1 hf
      refine lv_iload_n hx hb dX6_counts_4 rfl (lv_at hl 1 rfl) ?_
      refine lv_aload_n hx hb dX6_counts_5 rfl (lv_at hl 0 rfl) ?_
      refine z_get (c0 := 6) (i0 := o) (k0 := 3) (T := TX6) (v := .ref (ad 6 o 4)) S hG h_o rfl inlX6 (by decide) rfl zw_214 rfl dX6_counts_6 ?_
      refine z_alen (c0 := 6) (i0 := o) (k0 := 3) (n := 6) (v := 7) S hG h_o (by decide) rfl (by decide) (by rfl) dX6_counts_9 ?_
      refine lv_icmp_ge (tgt := 26) hx hb dX6_counts_10 (by decide) (fun c2 => ?_) (fun c2 => ?_)
      · have hf := zif_p c2 hf
        refine lv_iconst (v := 0) hx hb dX6_counts_26 (by decide) ?_
        have hq := (Option.some.inj hf)
        subst hq
        exact z_zret S hG hS hlocks (Or.inl rfl) hr dX6_counts_27
      · have hf := zif_n c2 hf
        refine lv_aload_n hx hb dX6_counts_13 rfl (lv_at hl 0 rfl) ?_
        refine z_get (c0 := 6) (i0 := o) (k0 := 3) (T := TX6) (v := .ref (ad 6 o 4)) S hG h_o rfl inlX6 (by decide) rfl zw_214 rfl dX6_counts_14 ?_
        refine lv_iload_n hx hb dX6_counts_17 rfl (lv_at hl 1 rfl) ?_
        obtain ⟨i3, hi3, hf⟩ := zbi hf
        refine z_zald (c0 := 6) (i0 := o) (k0 := 3) S hG h_o (by decide) rfl hi3 dX6_counts_18 ?_
        refine lv_if_eq (tgt := 26) hx hb dX6_counts_19 (by decide) (fun c4 => ?_) (fun c4 => ?_)
        · have hf := zif_p c4 hf
          refine lv_iconst (v := 0) hx hb dX6_counts_26 (by decide) ?_
          have hq := (Option.some.inj hf)
          subst hq
          exact z_zret S hG hS hlocks (Or.inl rfl) hr dX6_counts_27
        · have hf := zif_n c4 hf
          refine lv_iconst (v := 1) hx hb dX6_counts_22 (by decide) ?_
          refine lv_goto (tgt := 27) hx hb dX6_counts_23 (by decide) ?_
          have hq := (Option.some.inj hf)
          subst hq
          exact z_zret S hG hS hlocks (Or.inr rfl) hr dX6_counts_27
  exact hK0 _ _ ls hG hS hl hf
set_option maxRecDepth 100000 in
set_option maxHeartbeats 4000000 in
theorem c_J6_bitCount_0f7a4 (l : Launch) (D : va_G) (aC : Nat → ClassId) (zs : Nat × Nat) (fx : List (Nat × Nat)) (A : Nat → Prop) (nl : zNL) (ad : Nat → Nat → Nat → Nat) (σ : zM) (x0 : Int32) (r : Int32)  (hf : f_J6_bitCount_0f7a4 x0 = r) : Met l yJ6_bitCount_0f7a4 (Cond.code yJ6_bitCount_0f7a4 cJ6_bitCount_0f7a4 1 (some .int) :: wsL_law) ({ frames := 0, cells := 0, slots := 0, locals := 0 } : Room) (zP D aC zs fx A nl ad σ [.int x0]) (zQ (some (.int r)) (fun t => zG D aC A nl ad σ t t.heap ∧ True) A) 0 0 A := by
  refine Met.ofW (cc := cJ6_bitCount_0f7a4) (maxL := 1) (ret := (some .int)) (by decide) rfl ?_
  intro p e s m args below meth c s₁ B hml hv
  obtain ⟨rfl, hG, hZ⟩ := hv
  have hx := B.exec
  have hb := B.bytes
  have hr := B.returns
  have hts : ∀ w ∈ wsL_law, w.before ([.int x0] : List Value).toArray s = true := fun w h => (atoms_spec B.pre) w (List.mem_cons_of_mem _ h)
  have hown : s.vm.findClass RJ6 = some m.cls := findClass_of_methodNamed B.named
  have hlocks := B.notSynchronized
  have S : zS p m c cJ6_bitCount_0f7a4 1 s ([.int x0] : List Value).toArray RJ6 := ⟨hx, hb, hml, hown, hts⟩
  have hS : va_S A s.heap s.heap [] := va_S.rf
  have hl := lv_entry ([.int x0]) (n := 1) (Nat.le_of_ble_eq_true rfl)
  rw [lg_entry_eq]
  generalize (lg_sl ([.int x0]) ++ List.replicate (1 - (lg_sl ([.int x0])).length) Slot.unset).toArray = ls at hl ⊢
  have hl : lv_has ls 1 [(0, .int x0)] := hl
  generalize hargs : ([.int x0] : List Value).toArray = args at S hts ⊢
  clear hargs
  have hK0 : ∀ (H : Heap) (locs : List Loc) (ls : Array Slot), zG D aC A nl ad σ s H → va_S A s.heap H locs → lv_has ls 1 [(0, .int x0)] → f_J6_bitCount_0f7a4 x0 = r → zWk p l e ({ frames := 0, cells := 0, slots := 0, locals := 0 } : Room) s m args below meth c A (some (.int r)) (fun t => zG D aC A nl ad σ t t.heap ∧ True) H locs (F0 m 0 ls []) := by
    intro H locs ls hG hS hl hf
    unfold f_J6_bitCount_0f7a4 at hf
    refine lv_iload_n hx hb dJ6_bitCount_0f7a4_0 rfl (lv_at hl 0 rfl) ?_
    refine lv_iload_n hx hb dJ6_bitCount_0f7a4_1 rfl (lv_at hl 0 rfl) ?_
    refine lv_iconst (v := 1) hx hb dJ6_bitCount_0f7a4_2 (by decide) ?_
    refine lv_iushr (v := (zushr x0 1)) hx hb dJ6_bitCount_0f7a4_3 rfl ?_
    refine lv_ldcw (v := 1431655765) hx hb hown (hts _ zw_1024) dJ6_bitCount_0f7a4_4 ?_
    refine lv_iand hx hb dJ6_bitCount_0f7a4_7 ?_
    refine lv_isub hx hb dJ6_bitCount_0f7a4_8 ?_
    refine lv_istore_n (lv' := [(0, .int (x0 - ((zushr x0 1) &&& 1431655765)))]) hx hb dJ6_bitCount_0f7a4_9 rfl hl (by decide) rfl (fun ls hl => ?_)
    refine lv_iload_n hx hb dJ6_bitCount_0f7a4_10 rfl (lv_at hl 0 rfl) ?_
    refine lv_ldcw (v := 858993459) hx hb hown (hts _ zw_1025) dJ6_bitCount_0f7a4_11 ?_
    refine lv_iand hx hb dJ6_bitCount_0f7a4_14 ?_
    refine lv_iload_n hx hb dJ6_bitCount_0f7a4_15 rfl (lv_at hl 0 rfl) ?_
    refine lv_iconst (v := 2) hx hb dJ6_bitCount_0f7a4_16 (by decide) ?_
    refine lv_iushr (v := (zushr (x0 - ((zushr x0 1) &&& 1431655765)) 2)) hx hb dJ6_bitCount_0f7a4_17 rfl ?_
    refine lv_ldcw (v := 858993459) hx hb hown (hts _ zw_1025) dJ6_bitCount_0f7a4_18 ?_
    refine lv_iand hx hb dJ6_bitCount_0f7a4_21 ?_
    refine lv_iadd hx hb dJ6_bitCount_0f7a4_22 ?_
    refine lv_istore_n (lv' := [(0, .int (((x0 - ((zushr x0 1) &&& 1431655765)) &&& 858993459) + ((zushr (x0 - ((zushr x0 1) &&& 1431655765)) 2) &&& 858993459)))]) hx hb dJ6_bitCount_0f7a4_23 rfl hl (by decide) rfl (fun ls hl => ?_)
    refine lv_iload_n hx hb dJ6_bitCount_0f7a4_24 rfl (lv_at hl 0 rfl) ?_
    refine lv_iload_n hx hb dJ6_bitCount_0f7a4_25 rfl (lv_at hl 0 rfl) ?_
    refine lv_iconst (v := 4) hx hb dJ6_bitCount_0f7a4_26 (by decide) ?_
    refine lv_iushr (v := (zushr (((x0 - ((zushr x0 1) &&& 1431655765)) &&& 858993459) + ((zushr (x0 - ((zushr x0 1) &&& 1431655765)) 2) &&& 858993459)) 4)) hx hb dJ6_bitCount_0f7a4_27 rfl ?_
    refine lv_iadd hx hb dJ6_bitCount_0f7a4_28 ?_
    refine lv_ldcw (v := 252645135) hx hb hown (hts _ zw_1026) dJ6_bitCount_0f7a4_29 ?_
    refine lv_iand hx hb dJ6_bitCount_0f7a4_32 ?_
    refine lv_istore_n (lv' := [(0, .int (((((x0 - ((zushr x0 1) &&& 1431655765)) &&& 858993459) + ((zushr (x0 - ((zushr x0 1) &&& 1431655765)) 2) &&& 858993459)) + (zushr (((x0 - ((zushr x0 1) &&& 1431655765)) &&& 858993459) + ((zushr (x0 - ((zushr x0 1) &&& 1431655765)) 2) &&& 858993459)) 4)) &&& 252645135))]) hx hb dJ6_bitCount_0f7a4_33 rfl hl (by decide) rfl (fun ls hl => ?_)
    refine lv_iload_n hx hb dJ6_bitCount_0f7a4_34 rfl (lv_at hl 0 rfl) ?_
    refine lv_iload_n hx hb dJ6_bitCount_0f7a4_35 rfl (lv_at hl 0 rfl) ?_
    refine lv_bipush (v := 8) hx hb dJ6_bitCount_0f7a4_36 (by decide) ?_
    refine lv_iushr (v := (zushr (((((x0 - ((zushr x0 1) &&& 1431655765)) &&& 858993459) + ((zushr (x0 - ((zushr x0 1) &&& 1431655765)) 2) &&& 858993459)) + (zushr (((x0 - ((zushr x0 1) &&& 1431655765)) &&& 858993459) + ((zushr (x0 - ((zushr x0 1) &&& 1431655765)) 2) &&& 858993459)) 4)) &&& 252645135) 8)) hx hb dJ6_bitCount_0f7a4_38 rfl ?_
    refine lv_iadd hx hb dJ6_bitCount_0f7a4_39 ?_
    refine lv_istore_n (lv' := [(0, .int ((((((x0 - ((zushr x0 1) &&& 1431655765)) &&& 858993459) + ((zushr (x0 - ((zushr x0 1) &&& 1431655765)) 2) &&& 858993459)) + (zushr (((x0 - ((zushr x0 1) &&& 1431655765)) &&& 858993459) + ((zushr (x0 - ((zushr x0 1) &&& 1431655765)) 2) &&& 858993459)) 4)) &&& 252645135) + (zushr (((((x0 - ((zushr x0 1) &&& 1431655765)) &&& 858993459) + ((zushr (x0 - ((zushr x0 1) &&& 1431655765)) 2) &&& 858993459)) + (zushr (((x0 - ((zushr x0 1) &&& 1431655765)) &&& 858993459) + ((zushr (x0 - ((zushr x0 1) &&& 1431655765)) 2) &&& 858993459)) 4)) &&& 252645135) 8)))]) hx hb dJ6_bitCount_0f7a4_40 rfl hl (by decide) rfl (fun ls hl => ?_)
    refine lv_iload_n hx hb dJ6_bitCount_0f7a4_41 rfl (lv_at hl 0 rfl) ?_
    refine lv_iload_n hx hb dJ6_bitCount_0f7a4_42 rfl (lv_at hl 0 rfl) ?_
    refine lv_bipush (v := 16) hx hb dJ6_bitCount_0f7a4_43 (by decide) ?_
    refine lv_iushr (v := (zushr ((((((x0 - ((zushr x0 1) &&& 1431655765)) &&& 858993459) + ((zushr (x0 - ((zushr x0 1) &&& 1431655765)) 2) &&& 858993459)) + (zushr (((x0 - ((zushr x0 1) &&& 1431655765)) &&& 858993459) + ((zushr (x0 - ((zushr x0 1) &&& 1431655765)) 2) &&& 858993459)) 4)) &&& 252645135) + (zushr (((((x0 - ((zushr x0 1) &&& 1431655765)) &&& 858993459) + ((zushr (x0 - ((zushr x0 1) &&& 1431655765)) 2) &&& 858993459)) + (zushr (((x0 - ((zushr x0 1) &&& 1431655765)) &&& 858993459) + ((zushr (x0 - ((zushr x0 1) &&& 1431655765)) 2) &&& 858993459)) 4)) &&& 252645135) 8)) 16)) hx hb dJ6_bitCount_0f7a4_45 rfl ?_
    refine lv_iadd hx hb dJ6_bitCount_0f7a4_46 ?_
    refine lv_istore_n (lv' := [(0, .int (((((((x0 - ((zushr x0 1) &&& 1431655765)) &&& 858993459) + ((zushr (x0 - ((zushr x0 1) &&& 1431655765)) 2) &&& 858993459)) + (zushr (((x0 - ((zushr x0 1) &&& 1431655765)) &&& 858993459) + ((zushr (x0 - ((zushr x0 1) &&& 1431655765)) 2) &&& 858993459)) 4)) &&& 252645135) + (zushr (((((x0 - ((zushr x0 1) &&& 1431655765)) &&& 858993459) + ((zushr (x0 - ((zushr x0 1) &&& 1431655765)) 2) &&& 858993459)) + (zushr (((x0 - ((zushr x0 1) &&& 1431655765)) &&& 858993459) + ((zushr (x0 - ((zushr x0 1) &&& 1431655765)) 2) &&& 858993459)) 4)) &&& 252645135) 8)) + (zushr ((((((x0 - ((zushr x0 1) &&& 1431655765)) &&& 858993459) + ((zushr (x0 - ((zushr x0 1) &&& 1431655765)) 2) &&& 858993459)) + (zushr (((x0 - ((zushr x0 1) &&& 1431655765)) &&& 858993459) + ((zushr (x0 - ((zushr x0 1) &&& 1431655765)) 2) &&& 858993459)) 4)) &&& 252645135) + (zushr (((((x0 - ((zushr x0 1) &&& 1431655765)) &&& 858993459) + ((zushr (x0 - ((zushr x0 1) &&& 1431655765)) 2) &&& 858993459)) + (zushr (((x0 - ((zushr x0 1) &&& 1431655765)) &&& 858993459) + ((zushr (x0 - ((zushr x0 1) &&& 1431655765)) 2) &&& 858993459)) 4)) &&& 252645135) 8)) 16)))]) hx hb dJ6_bitCount_0f7a4_47 rfl hl (by decide) rfl (fun ls hl => ?_)
    refine lv_iload_n hx hb dJ6_bitCount_0f7a4_48 rfl (lv_at hl 0 rfl) ?_
    refine lv_bipush (v := 63) hx hb dJ6_bitCount_0f7a4_49 (by decide) ?_
    refine lv_iand hx hb dJ6_bitCount_0f7a4_51 ?_
    have hq := hf
    subst hq
    exact z_iret S hG hS hlocks trivial hr dJ6_bitCount_0f7a4_52
  exact hK0 _ _ ls hG hS hl hf
set_option maxRecDepth 100000 in
set_option maxHeartbeats 4000000 in
theorem c_X6_setMark (l : Launch) (D : va_G) (aC : Nat → ClassId) (zs : Nat × Nat) (A : Nat → Prop) (nl : zNL) (ad : Nat → Nat → Nat → Nat) (σ : zM) (o : Nat) (x1 : Int32) (x2 : Int32) (x3 : Int32)  (σ' : zM) (h_o : zin nl 6 o) (hf : f_X6_setMark σ o x1 x2 x3 = some σ') : Met l yX6_setMark (Cond.code yX6_setMark cX6_setMark 5 none :: wsL_law) ({ frames := 0, cells := 0, slots := 0, locals := 0 } : Room) (zP D aC zs zfX A nl ad σ [.ref (ad 6 o 0), .int x1, .int x2, .int x3]) (zQ none (fun t => zG D aC A nl ad σ' t t.heap ∧ True) A) 0 0 A := by
  refine Met.ofW (cc := cX6_setMark) (maxL := 5) (ret := none) (by decide) rfl ?_
  intro p e s m args below meth c s₁ B hml hv
  obtain ⟨rfl, hG, hZ⟩ := hv
  have hx := B.exec
  have hb := B.bytes
  have hr := B.returns
  have hts : ∀ w ∈ wsL_law, w.before ([.ref (ad 6 o 0), .int x1, .int x2, .int x3] : List Value).toArray s = true := fun w h => (atoms_spec B.pre) w (List.mem_cons_of_mem _ h)
  have hown : s.vm.findClass RX6 = some m.cls := findClass_of_methodNamed B.named
  have hlocks := B.notSynchronized
  have S : zS p m c cX6_setMark 5 s ([.ref (ad 6 o 0), .int x1, .int x2, .int x3] : List Value).toArray RX6 := ⟨hx, hb, hml, hown, hts⟩
  have hS : va_S A s.heap s.heap [] := va_S.rf
  have hl := lv_entry ([.ref (ad 6 o 0), .int x1, .int x2, .int x3]) (n := 5) (Nat.le_of_ble_eq_true rfl)
  rw [lg_entry_eq]
  generalize (lg_sl ([.ref (ad 6 o 0), .int x1, .int x2, .int x3]) ++ List.replicate (5 - (lg_sl ([.ref (ad 6 o 0), .int x1, .int x2, .int x3])).length) Slot.unset).toArray = ls at hl ⊢
  have hl : lv_has ls 5 [(0, .ref (ad 6 o 0)), (1, .int x1), (2, .int x2), (3, .int x3)] := hl
  generalize hargs : ([.ref (ad 6 o 0), .int x1, .int x2, .int x3] : List Value).toArray = args at S hts ⊢
  clear hargs
  have hK0 : ∀ (H : Heap) (locs : List Loc) (ls : Array Slot), zG D aC A nl ad σ s H → va_S A s.heap H locs → lv_has ls 5 [(0, .ref (ad 6 o 0)), (1, .int x1), (2, .int x2), (3, .int x3)] → f_X6_setMark σ o x1 x2 x3 = some σ' → zWk p l e ({ frames := 0, cells := 0, slots := 0, locals := 0 } : Room) s m args below meth c A none (fun t => zG D aC A nl ad σ' t t.heap ∧ True) H locs (F0 m 0 ls []) := by
    intro H locs ls hG hS hl hf
    unfold f_X6_setMark at hf
    refine lv_iload_n hx hb dX6_setMark_0 rfl (lv_at hl 1 rfl) ?_
    refine lv_bipush (v := 10) hx hb dX6_setMark_1 (by decide) ?_
    refine lv_imul hx hb dX6_setMark_3 ?_
    refine lv_iload_n hx hb dX6_setMark_4 rfl (lv_at hl 2 rfl) ?_
    refine lv_iadd hx hb dX6_setMark_5 ?_
    refine lv_istore (lv' := [(4, .int ((x1 * 10) + x2)), (0, .ref (ad 6 o 0)), (1, .int x1), (2, .int x2), (3, .int x3)]) hx hb dX6_setMark_6 hl (by decide) rfl (fun ls hl => ?_)
    refine lv_iload hx hb dX6_setMark_8 (lv_at hl 0 rfl) ?_
    refine lv_if_lt (tgt := 31) hx hb dX6_setMark_10 (by decide) (fun c1 => ?_) (fun c1 => ?_)
    · have hf := zif_p c1 hf
      have hq := (Option.some.inj hf)
      subst hq
      exact z_vret S hG hS hlocks trivial hr dX6_setMark_31
    · have hf := zif_n c1 hf
      refine lv_iload hx hb dX6_setMark_13 (lv_at hl 0 rfl) ?_
      refine lv_aload_n hx hb dX6_setMark_15 rfl (lv_at hl 1 rfl) ?_
      refine z_get (c0 := 6) (i0 := o) (k0 := 1) (T := TX6) (v := .ref (ad 6 o 2)) S hG h_o rfl inlX6 (by decide) rfl zw_212 rfl dX6_setMark_16 ?_
      refine z_alen (c0 := 6) (i0 := o) (k0 := 1) (n := 4) (v := 70) S hG h_o (by decide) rfl (by decide) (by rfl) dX6_setMark_19 ?_
      refine lv_icmp_ge (tgt := 31) hx hb dX6_setMark_20 (by decide) (fun c2 => ?_) (fun c2 => ?_)
      · have hf := zif_p c2 hf
        have hq := (Option.some.inj hf)
        subst hq
        exact z_vret S hG hS hlocks trivial hr dX6_setMark_31
      · have hf := zif_n c2 hf
        refine lv_aload_n hx hb dX6_setMark_23 rfl (lv_at hl 1 rfl) ?_
        refine z_get (c0 := 6) (i0 := o) (k0 := 1) (T := TX6) (v := .ref (ad 6 o 2)) S hG h_o rfl inlX6 (by decide) rfl zw_212 rfl dX6_setMark_24 ?_
        refine lv_iload hx hb dX6_setMark_27 (lv_at hl 0 rfl) ?_
        refine lv_iload_n hx hb dX6_setMark_29 rfl (lv_at hl 4 rfl) ?_
        obtain ⟨i3, hi3, hf⟩ := zbi hf
        refine z_iast (c0 := 6) (i0 := o) (k0 := 1) S hG hS h_o (by decide) rfl hi3 dX6_setMark_30 (fun H locs hG hS => ?_)
        obtain ⟨σ4, eσ4, hf⟩ := zlt_s hf
        rw [← eσ4] at hG
        have hq := (Option.some.inj hf)
        subst hq
        exact z_vret S hG hS hlocks trivial hr dX6_setMark_31
  exact hK0 _ _ ls hG hS hl hf
set_option maxRecDepth 100000 in
set_option maxHeartbeats 4000000 in
theorem c_X6_mark (l : Launch) (D : va_G) (aC : Nat → ClassId) (zs : Nat × Nat) (A : Nat → Prop) (nl : zNL) (ad : Nat → Nat → Nat → Nat) (σ : zM) (o : Nat) (x1 : Int32) (x2 : Int64) (x4 : Int32) (r : Int32) (σ' : zM) (h_o : zin nl 6 o) (hf : f_X6_mark σ o x1 x2 x4 = some (r, σ')) : Met l yX6_mark (Cond.code yX6_mark cX6_mark 10 (some .int) :: wsL_law) ({ frames := 1, cells := 0, slots := 0, locals := 24 } : Room) (zP D aC zs zfX A nl ad σ [.ref (ad 6 o 0), .int x1, .long x2, .int x4]) (zQ (some (.int r)) (fun t => zG D aC A nl ad σ' t t.heap ∧ True) A) 0 0 A := by
  refine Met.ofW (cc := cX6_mark) (maxL := 10) (ret := (some .int)) (by decide) rfl ?_
  intro p e s m args below meth c s₁ B hml hv
  obtain ⟨rfl, hG, hZ⟩ := hv
  have hx := B.exec
  have hb := B.bytes
  have hr := B.returns
  have hts : ∀ w ∈ wsL_law, w.before ([.ref (ad 6 o 0), .int x1, .long x2, .int x4] : List Value).toArray s = true := fun w h => (atoms_spec B.pre) w (List.mem_cons_of_mem _ h)
  have hown : s.vm.findClass RX6 = some m.cls := findClass_of_methodNamed B.named
  have hlocks := B.notSynchronized
  have S : zS p m c cX6_mark 10 s ([.ref (ad 6 o 0), .int x1, .long x2, .int x4] : List Value).toArray RX6 := ⟨hx, hb, hml, hown, hts⟩
  have hS : va_S A s.heap s.heap [] := va_S.rf
  have hl := lv_entry ([.ref (ad 6 o 0), .int x1, .long x2, .int x4]) (n := 10) (Nat.le_of_ble_eq_true rfl)
  rw [lg_entry_eq]
  generalize (lg_sl ([.ref (ad 6 o 0), .int x1, .long x2, .int x4]) ++ List.replicate (10 - (lg_sl ([.ref (ad 6 o 0), .int x1, .long x2, .int x4])).length) Slot.unset).toArray = ls at hl ⊢
  have hl : lv_has ls 10 [(0, .ref (ad 6 o 0)), (1, .int x1), (2, .long x2), (4, .int x4)] := hl
  generalize hargs : ([.ref (ad 6 o 0), .int x1, .long x2, .int x4] : List Value).toArray = args at S hts ⊢
  clear hargs
  have KJ181 : ∀ (y7b181 : Int32)  (σb181 : zM) (H : Heap) (locs : List Loc) (ls : Array Slot), zG D aC A nl ad σb181 s H → va_S A s.heap H locs → lv_has ls 10 [(0, .ref (ad 6 o 0)), (1, .int x1), (2, .long x2), (4, .int x4), (7, .int y7b181)] → (f_X6_mark_B181 σb181 o x1 x2 x4 y7b181) = some (r, σ') → zWk p l e ({ frames := 1, cells := 0, slots := 0, locals := 24 } : Room) s m args below meth c A (some (.int r)) (fun t => zG D aC A nl ad σ' t t.heap ∧ True) H locs (F0 m 181 ls []) := by
    intro y7b181  σb181 H locs ls hG hS hl hf
    unfold f_X6_mark_B181 at hf
    refine lv_aload_n hx hb dX6_mark_181 rfl (lv_at hl 0 rfl) ?_
    refine z_get (c0 := 6) (i0 := o) (k0 := 2) (T := TX6) (v := .ref (ad 6 o 3)) S hG h_o rfl inlX6 (by decide) rfl zw_213 rfl dX6_mark_182 ?_
    refine lv_iload_n hx hb dX6_mark_185 rfl (lv_at hl 1 rfl) ?_
    refine lv_iload hx hb dX6_mark_186 (lv_at hl 4 rfl) ?_
    obtain ⟨i8, hi8, hf⟩ := zbi hf
    refine z_iast (c0 := 6) (i0 := o) (k0 := 2) S hG hS h_o (by decide) rfl hi8 dX6_mark_188 (fun H locs hG hS => ?_)
    obtain ⟨σ9, eσ9, hf⟩ := zlt_s hf
    rw [← eσ9] at hG
    refine lv_iload hx hb dX6_mark_189 (lv_at hl 4 rfl) ?_
    obtain ⟨hq1, hq2⟩ := Prod.mk.inj (Option.some.inj hf)
    subst hq1
    subst hq2
    exact z_iret S hG hS hlocks trivial hr dX6_mark_191
  have KJ129 : ∀ (y6b129 : Int32)  (σb129 : zM) (H : Heap) (locs : List Loc) (ls : Array Slot), zG D aC A nl ad σb129 s H → va_S A s.heap H locs → lv_has ls 10 [(0, .ref (ad 6 o 0)), (1, .int x1), (2, .long x2), (4, .int x4), (6, .int y6b129)] → (f_X6_mark_B129 σb129 o x1 x2 x4 y6b129) = some (r, σ') → zWk p l e ({ frames := 1, cells := 0, slots := 0, locals := 24 } : Room) s m args below meth c A (some (.int r)) (fun t => zG D aC A nl ad σ' t t.heap ∧ True) H locs (F0 m 129 ls []) := by
    intro y6b129  σb129 H locs ls hG hS hl hf
    unfold f_X6_mark_B129 at hf
    refine lv_iload hx hb dX6_mark_129 (lv_at hl 4 rfl) ?_
    refine z_callS (n := 1) (rest := []) (st1 := [.int (f_J6_bitCount_0f7a4 y6b129)]) S hG hS hZ (fun _ _ h => h) (c_J6_bitCount_0f7a4 l D aC zs zfX A nl ad σb129 y6b129 (f_J6_bitCount_0f7a4 y6b129) rfl) zw_1263 zw_1021 zw_1022 zw_1023 (by decide +kernel) ⟨rfl, rfl⟩ ⟨(Nat.le_of_ble_eq_true rfl), (Nat.le_of_ble_eq_true rfl)⟩ hl.1 rfl (by rfl) (by rfl) (Nat.le_of_ble_eq_true rfl) dX6_mark_131 ⟨Nat.zero_le _, Nat.zero_le _⟩ (fun H locs hz6 hG hS => ?_)
    refine lv_istore (lv' := [(7, .int (f_J6_bitCount_0f7a4 y6b129)), (0, .ref (ad 6 o 0)), (1, .int x1), (2, .long x2), (4, .int x4), (6, .int y6b129)]) hx hb dX6_mark_134 hl (by decide) rfl (fun ls hl => ?_)
    refine lv_iconst (v := 0) hx hb dX6_mark_136 (by decide) ?_
    refine lv_istore (lv' := [(8, .int 0), (7, .int (f_J6_bitCount_0f7a4 y6b129)), (0, .ref (ad 6 o 0)), (1, .int x1), (2, .long x2), (4, .int x4), (6, .int y6b129)]) hx hb dX6_mark_137 hl (by decide) rfl (fun ls hl => ?_)
    obtain ⟨t139, hw139, hfo139⟩ := zbi hf
    have KL139 : ∀ (n : Nat) (y8l139 : Int32) (σl139 : zM) (H : Heap) (locs : List Loc) (ls : Array Slot), zG D aC A nl ad σl139 s H → va_S A s.heap H locs → lv_has ls 10 [(0, .ref (ad 6 o 0)), (1, .int x1), (2, .long x2), (4, .int x4), (7, .int (f_J6_bitCount_0f7a4 y6b129)), (8, .int y8l139)] → zwh (fun (q : (Int32 × zM)) => f_X6_mark_L139 o x1 x2 x4 (f_J6_bitCount_0f7a4 y6b129) q.1 q.2) n (y8l139, σl139) = some t139 → zWk p l e ({ frames := 1, cells := 0, slots := 0, locals := 24 } : Room) s m args below meth c A (some (.int r)) (fun t => zG D aC A nl ad σ' t t.heap ∧ True) H locs (F0 m 139 ls []) := by
      intro n
      induction n with
      | zero =>
        intro y8l139 σl139 H locs ls hG hS hl hw
        exact (zwh_0 hw).elim
      | succ n ih139 =>
        intro y8l139 σl139 H locs ls hG hS hl hw
        obtain ⟨rr139, hf, hk139⟩ := zwh_u hw
        have hf : f_X6_mark_L139 o x1 x2 x4 (f_J6_bitCount_0f7a4 y6b129) y8l139 σl139 = some rr139 := hf
        unfold f_X6_mark_L139 at hf
        refine lv_iload hx hb dX6_mark_139 (lv_at hl 5 rfl) ?_
        refine lv_iload hx hb dX6_mark_141 (lv_at hl 4 rfl) ?_
        refine lv_icmp_ge (tgt := 181) hx hb dX6_mark_143 (by decide) (fun c12 => ?_) (fun c12 => ?_)
        · have hf := zif_p c12 hf
          cases hf
          have hk139 : (σl139 : zM) = t139 := hk139
          have hf := hfo139
          rw [← hk139] at hf
          have hf : (f_X6_mark_B181 σl139 o x1 x2 x4 (f_J6_bitCount_0f7a4 y6b129)) = some (r, σ') := hf
          exact KJ181 (f_J6_bitCount_0f7a4 y6b129) σl139 H locs ls hG hS (lv_sub hl [0, 1, 2, 3, 4] rfl) hf
        · have hf := zif_n c12 hf
          refine lv_iconst (v := 4) hx hb dX6_mark_146 (by decide) ?_
          refine lv_iload hx hb dX6_mark_147 (lv_at hl 4 rfl) ?_
          refine lv_iconst (v := 1) hx hb dX6_mark_149 (by decide) ?_
          refine lv_isub hx hb dX6_mark_150 ?_
          refine lv_iload hx hb dX6_mark_151 (lv_at hl 5 rfl) ?_
          refine lv_isub hx hb dX6_mark_153 ?_
          refine lv_imul hx hb dX6_mark_154 ?_
          refine lv_istore (lv' := [(9, .int (4 * (((f_J6_bitCount_0f7a4 y6b129) - 1) - y8l139))), (0, .ref (ad 6 o 0)), (1, .int x1), (2, .long x2), (4, .int x4), (7, .int (f_J6_bitCount_0f7a4 y6b129)), (8, .int y8l139)]) hx hb dX6_mark_155 hl (by decide) rfl (fun ls hl => ?_)
          refine lv_aload_n hx hb dX6_mark_157 rfl (lv_at hl 1 rfl) ?_
          refine lv_iload_n hx hb dX6_mark_158 rfl (lv_at hl 2 rfl) ?_
          refine lv_iload hx hb dX6_mark_159 (lv_at hl 6 rfl) ?_
          refine lv_lload_n hx hb dX6_mark_161 rfl (lv_at hl 3 rfl) ?_
          refine lv_iload hx hb dX6_mark_162 (lv_at hl 0 rfl) ?_
          refine lv_lushr (v := (zlushr x2 (4 * (((f_J6_bitCount_0f7a4 y6b129) - 1) - y8l139)))) hx hb dX6_mark_164 rfl ?_
          refine lv_ldc2 (v := 15) hx hb hown (hts _ zw_1262) dX6_mark_165 ?_
          refine lv_land hx hb dX6_mark_168 ?_
          refine lv_l2i (v := ((zlushr x2 (4 * (((f_J6_bitCount_0f7a4 y6b129) - 1) - y8l139))) &&& 15).toInt32) hx hb dX6_mark_169 rfl ?_
          refine lv_iconst (v := 1) hx hb dX6_mark_170 (by decide) ?_
          refine lv_isub hx hb dX6_mark_171 ?_
          obtain ⟨σ13, eσ13, hf⟩ := zbi hf
          refine z_callV (n := 3) (rest := []) (st1 := []) (c0 := 6) (i0 := o) h_o (by rfl) S hG hS hZ (fun _ _ h => h) (c_X6_setMark l D aC zs A nl ad σl139 o x1 y8l139 (((zlushr x2 (4 * (((f_J6_bitCount_0f7a4 y6b129) - 1) - y8l139))) &&& 15).toInt32 - 1) σ13 h_o eσ13) zw_1264 zw_1265 zw_1266 zw_45 zw_1267 (by decide +kernel) ⟨rfl, rfl⟩ ⟨(Nat.le_of_ble_eq_true rfl), (Nat.le_of_ble_eq_true rfl)⟩ hl.1 rfl (by rfl) (by rfl) (Nat.le_of_ble_eq_true rfl) dX6_mark_172 ⟨Nat.zero_le _, Nat.zero_le _⟩ (fun H locs hz14 hG hS => ?_)
          refine lv_iinc (v := (y8l139 + 1)) (lv' := [(8, .int (y8l139 + 1)), (9, .int (4 * (((f_J6_bitCount_0f7a4 y6b129) - 1) - y8l139))), (0, .ref (ad 6 o 0)), (1, .int x1), (2, .long x2), (4, .int x4), (7, .int (f_J6_bitCount_0f7a4 y6b129))]) hx hb dX6_mark_175 hl (k := 6) rfl rfl (by decide) rfl (fun ls hl => ?_)
          refine lv_goto (tgt := 139) hx hb dX6_mark_178 (by decide) ?_
          cases hf
          exact ih139 (y8l139 + 1) σ13 H locs ls hG hS (lv_sub hl [2, 3, 4, 5, 6, 0] rfl) hk139
    exact KL139 zFu 0 σb129 H locs ls hG hS (lv_sub hl [2, 3, 4, 5, 1, 0] rfl) hw139
  have hK0 : ∀ (H : Heap) (locs : List Loc) (ls : Array Slot), zG D aC A nl ad σ s H → va_S A s.heap H locs → lv_has ls 10 [(0, .ref (ad 6 o 0)), (1, .int x1), (2, .long x2), (4, .int x4)] → f_X6_mark σ o x1 x2 x4 = some (r, σ') → zWk p l e ({ frames := 1, cells := 0, slots := 0, locals := 24 } : Room) s m args below meth c A (some (.int r)) (fun t => zG D aC A nl ad σ' t t.heap ∧ True) H locs (F0 m 0 ls []) := by
    intro H locs ls hG hS hl hf
    unfold f_X6_mark at hf
    refine lv_bipush (v := 40) hx hb dX6_mark_0 (by decide) ?_
    refine lv_istore (lv' := [(5, .int 40), (0, .ref (ad 6 o 0)), (1, .int x1), (2, .long x2), (4, .int x4)]) hx hb dX6_mark_2 hl (by decide) rfl (fun ls hl => ?_)
    refine lv_iload_n hx hb dX6_mark_4 rfl (lv_at hl 2 rfl) ?_
    refine lv_if_lt (tgt := 32) hx hb dX6_mark_5 (by decide) (fun c1 => ?_) (fun c1 => ?_)
    · have hf := zif_p c1 hf
      refine lv_iconst (v := (-1)) hx hb dX6_mark_32 (by decide) ?_
      obtain ⟨hq1, hq2⟩ := Prod.mk.inj (Option.some.inj hf)
      subst hq1
      subst hq2
      exact z_iret S hG hS hlocks trivial hr dX6_mark_33
    · have hf := zif_n c1 hf
      refine lv_iload_n hx hb dX6_mark_8 rfl (lv_at hl 2 rfl) ?_
      refine lv_aload_n hx hb dX6_mark_9 rfl (lv_at hl 1 rfl) ?_
      refine z_get (c0 := 6) (i0 := o) (k0 := 2) (T := TX6) (v := .ref (ad 6 o 3)) S hG h_o rfl inlX6 (by decide) rfl zw_213 rfl dX6_mark_10 ?_
      refine z_alen (c0 := 6) (i0 := o) (k0 := 2) (n := 4) (v := 7) S hG h_o (by decide) rfl (by decide) (by rfl) dX6_mark_13 ?_
      refine lv_icmp_ge (tgt := 32) hx hb dX6_mark_14 (by decide) (fun c2 => ?_) (fun c2 => ?_)
      · have hf := zif_p c2 hf
        refine lv_iconst (v := (-1)) hx hb dX6_mark_32 (by decide) ?_
        obtain ⟨hq1, hq2⟩ := Prod.mk.inj (Option.some.inj hf)
        subst hq1
        subst hq2
        exact z_iret S hG hS hlocks trivial hr dX6_mark_33
      · have hf := zif_n c2 hf
        refine lv_lload_n hx hb dX6_mark_17 rfl (lv_at hl 3 rfl) ?_
        refine lv_lconst (v := 0) hx hb dX6_mark_18 (by decide) ?_
        refine W.lcmp hx hb dX6_mark_19 ?_
        refine lv_if_lt (tgt := 32) hx hb dX6_mark_20 (by decide) (fun c3 => ?_) (fun c3 => ?_)
        · have hf := zif_p ((lg_cmp_lt x2 0).mp c3) hf
          refine lv_iconst (v := (-1)) hx hb dX6_mark_32 (by decide) ?_
          obtain ⟨hq1, hq2⟩ := Prod.mk.inj (Option.some.inj hf)
          subst hq1
          subst hq2
          exact z_iret S hG hS hlocks trivial hr dX6_mark_33
        · have hf := zif_n (fun h => c3 ((lg_cmp_lt x2 0).mpr h)) hf
          refine lv_lload_n hx hb dX6_mark_23 rfl (lv_at hl 3 rfl) ?_
          refine lv_iload hx hb dX6_mark_24 (lv_at hl 0 rfl) ?_
          refine lv_lushr (v := (zlushr x2 40)) hx hb dX6_mark_26 rfl ?_
          refine lv_lconst (v := 0) hx hb dX6_mark_27 (by decide) ?_
          refine W.lcmp hx hb dX6_mark_28 ?_
          refine lv_if_eq (tgt := 34) hx hb dX6_mark_29 (by decide) (fun c4 => ?_) (fun c4 => ?_)
          · have hf := zif_p ((lg_cmp_eq (zlushr x2 40) 0).mp c4) hf
            refine lv_iconst (v := 0) hx hb dX6_mark_34 (by decide) ?_
            refine lv_istore (lv' := [(6, .int 0), (5, .int 40), (0, .ref (ad 6 o 0)), (1, .int x1), (2, .long x2), (4, .int x4)]) hx hb dX6_mark_35 hl (by decide) rfl (fun ls hl => ?_)
            refine lv_iload hx hb dX6_mark_37 (lv_at hl 1 rfl) ?_
            refine lv_iconst (v := 4) hx hb dX6_mark_39 (by decide) ?_
            refine lv_isub hx hb dX6_mark_40 ?_
            refine lv_istore (lv' := [(7, .int (40 - 4)), (6, .int 0), (5, .int 40), (0, .ref (ad 6 o 0)), (1, .int x1), (2, .long x2), (4, .int x4)]) hx hb dX6_mark_41 hl (by decide) rfl (fun ls hl => ?_)
            obtain ⟨t43, hw43, hfo43⟩ := zbi hf
            have KL43 : ∀ (n : Nat) (y6l43 : Int32) (y7l43 : Int32) (H : Heap) (locs : List Loc) (ls : Array Slot), zG D aC A nl ad σ s H → va_S A s.heap H locs → lv_has ls 10 [(0, .ref (ad 6 o 0)), (1, .int x1), (2, .long x2), (4, .int x4), (6, .int y6l43), (7, .int y7l43)] → zwh (fun (q : (Int32 × Int32)) => f_X6_mark_L43 σ o x1 x2 x4 q.1 q.2) n (y6l43, y7l43) = some t43 → zWk p l e ({ frames := 1, cells := 0, slots := 0, locals := 24 } : Room) s m args below meth c A (some (.int r)) (fun t => zG D aC A nl ad σ' t t.heap ∧ True) H locs (F0 m 43 ls []) := by
              intro n
              induction n with
              | zero =>
                intro y6l43 y7l43 H locs ls hG hS hl hw
                exact (zwh_0 hw).elim
              | succ n ih43 =>
                intro y6l43 y7l43 H locs ls hG hS hl hw
                obtain ⟨rr43, hf, hk43⟩ := zwh_u hw
                have hf : f_X6_mark_L43 σ o x1 x2 x4 y6l43 y7l43 = some rr43 := hf
                unfold f_X6_mark_L43 at hf
                have KJ105_43 : ∀ (y6b105 : Int32) (y7b105 : Int32) (y8b105 : Int32) (y9b105 : Int32)   (H : Heap) (locs : List Loc) (ls : Array Slot), zG D aC A nl ad σ s H → va_S A s.heap H locs → lv_has ls 10 [(0, .ref (ad 6 o 0)), (1, .int x1), (2, .long x2), (4, .int x4), (6, .int y6b105), (7, .int y7b105), (8, .int y8b105), (9, .int y9b105)] → (f_X6_mark_B105_43 σ o x1 x2 x4 y6b105 y7b105 y8b105 y9b105) = some rr43 → zWk p l e ({ frames := 1, cells := 0, slots := 0, locals := 24 } : Room) s m args below meth c A (some (.int r)) (fun t => zG D aC A nl ad σ' t t.heap ∧ True) H locs (F0 m 105 ls []) := by
                  intro y6b105 y7b105 y8b105 y9b105   H locs ls hG hS hl hf
                  unfold f_X6_mark_B105_43 at hf
                  refine lv_iload hx hb dX6_mark_105 (lv_at hl 4 rfl) ?_
                  refine lv_iload hx hb dX6_mark_107 (lv_at hl 7 rfl) ?_
                  have Kv38 : ∀ (v38 : Int32) (ls : Array Slot), lv_has ls 10 [(0, .ref (ad 6 o 0)), (1, .int x1), (2, .long x2), (4, .int x4), (6, .int y6b105), (7, .int y7b105), (8, .int y8b105), (9, .int y9b105)] → (some (.inl ((y6b105 ||| v38), (y7b105 + (-4))))) = some rr43 → zWk p l e ({ frames := 1, cells := 0, slots := 0, locals := 24 } : Room) s m args below meth c A (some (.int r)) (fun t => zG D aC A nl ad σ' t t.heap ∧ True) H locs (F0 m 120 ls [.int v38, .int y6b105]) := by
                    intro v38 ls hl hf
                    refine lv_ior hx hb dX6_mark_120 ?_
                    refine lv_istore (lv' := [(6, .int (y6b105 ||| v38)), (0, .ref (ad 6 o 0)), (1, .int x1), (2, .long x2), (4, .int x4), (7, .int y7b105), (8, .int y8b105), (9, .int y9b105)]) hx hb dX6_mark_121 hl (by decide) rfl (fun ls hl => ?_)
                    refine lv_iinc (v := (y7b105 + (-4))) (lv' := [(7, .int (y7b105 + (-4))), (6, .int (y6b105 ||| v38)), (0, .ref (ad 6 o 0)), (1, .int x1), (2, .long x2), (4, .int x4), (8, .int y8b105), (9, .int y9b105)]) hx hb dX6_mark_123 hl (k := 5) rfl rfl (by decide) rfl (fun ls hl => ?_)
                    refine lv_goto (tgt := 43) hx hb dX6_mark_126 (by decide) ?_
                    cases hf
                    exact ih43 (y6b105 ||| v38) (y7b105 + (-4)) H locs ls hG hS (lv_sub hl [2, 3, 4, 5, 1, 0] rfl) hk43
                  refine lv_if_eq (tgt := 116) hx hb dX6_mark_109 (by decide) (fun c37 => ?_) (fun c37 => ?_)
                  · rw [if_pos c37] at hf
                    refine lv_iconst (v := 1) hx hb dX6_mark_116 (by decide) ?_
                    refine lv_iload hx hb dX6_mark_117 (lv_at hl 6 rfl) ?_
                    refine lv_ishl hx hb dX6_mark_119 ?_
                    exact Kv38 _ ls hl hf
                  · rw [if_neg c37] at hf
                    refine lv_iconst (v := 0) hx hb dX6_mark_112 (by decide) ?_
                    refine lv_goto (tgt := 120) hx hb dX6_mark_113 (by decide) ?_
                    exact Kv38 _ ls hl hf
                refine lv_iload hx hb dX6_mark_43 (lv_at hl 5 rfl) ?_
                refine lv_if_lt (tgt := 129) hx hb dX6_mark_45 (by decide) (fun c30 => ?_) (fun c30 => ?_)
                · have hf := zif_p c30 hf
                  cases hf
                  have hk43 : ((.inr y6l43) : (Unit ⊕ Int32)) = t43 := hk43
                  have hf := hfo43
                  rw [← hk43] at hf
                  have hf : (f_X6_mark_B129 σ o x1 x2 x4 y6l43) = some (r, σ') := hf
                  exact KJ129 y6l43 σ H locs ls hG hS (lv_sub hl [0, 1, 2, 3, 4] rfl) hf
                · have hf := zif_n c30 hf
                  refine lv_lload_n hx hb dX6_mark_48 rfl (lv_at hl 2 rfl) ?_
                  refine lv_iload hx hb dX6_mark_49 (lv_at hl 5 rfl) ?_
                  refine lv_lushr (v := (zlushr x2 y7l43)) hx hb dX6_mark_51 rfl ?_
                  refine lv_ldc2 (v := 15) hx hb hown (hts _ zw_1262) dX6_mark_52 ?_
                  refine lv_land hx hb dX6_mark_55 ?_
                  refine lv_l2i (v := ((zlushr x2 y7l43) &&& 15).toInt32) hx hb dX6_mark_56 rfl ?_
                  refine lv_istore (lv' := [(8, .int (((zlushr x2 y7l43) &&& 15).toInt32)), (0, .ref (ad 6 o 0)), (1, .int x1), (2, .long x2), (4, .int x4), (6, .int y6l43), (7, .int y7l43)]) hx hb dX6_mark_57 hl (by decide) rfl (fun ls hl => ?_)
                  refine lv_iload hx hb dX6_mark_59 (lv_at hl 0 rfl) ?_
                  have Kv34 : ∀ (v34 : Int32) (ls : Array Slot), lv_has ls 10 [(8, .int (((zlushr x2 y7l43) &&& 15).toInt32)), (0, .ref (ad 6 o 0)), (1, .int x1), (2, .long x2), (4, .int x4), (6, .int y6l43), (7, .int y7l43)] → (if v34 = 0 then (if ((zlushr x2 y7l43) &&& 15).toInt32 = 0 then (some (.inr (.inl ()))) else (if x4 < ((zlushr x2 y7l43) &&& 15).toInt32 then (some (.inr (.inl ()))) else (if ((zushr y6l43 (((zlushr x2 y7l43) &&& 15).toInt32)) &&& 1) = 0 then (f_X6_mark_B105_43 σ o x1 x2 x4 y6l43 y7l43 (((zlushr x2 y7l43) &&& 15).toInt32) v34) else (some (.inr (.inl ())))))) else (f_X6_mark_B105_43 σ o x1 x2 x4 y6l43 y7l43 (((zlushr x2 y7l43) &&& 15).toInt32) v34)) = some rr43 → zWk p l e ({ frames := 1, cells := 0, slots := 0, locals := 24 } : Room) s m args below meth c A (some (.int r)) (fun t => zG D aC A nl ad σ' t t.heap ∧ True) H locs (F0 m 74 ls [.int v34]) := by
                    intro v34 ls hl hf
                    refine lv_istore (lv' := [(9, .int v34), (8, .int (((zlushr x2 y7l43) &&& 15).toInt32)), (0, .ref (ad 6 o 0)), (1, .int x1), (2, .long x2), (4, .int x4), (6, .int y6l43), (7, .int y7l43)]) hx hb dX6_mark_74 hl (by decide) rfl (fun ls hl => ?_)
                    refine lv_iload hx hb dX6_mark_76 (lv_at hl 0 rfl) ?_
                    refine lv_if_ne (tgt := 105) hx hb dX6_mark_78 (by decide) (fun c42 => ?_) (fun c42 => ?_)
                    · have hf := zif_n c42 hf
                      exact KJ105_43 y6l43 y7l43 (((zlushr x2 y7l43) &&& 15).toInt32) v34 H locs ls hG hS (lv_sub hl [2, 3, 4, 5, 6, 7, 1, 0] rfl) hf
                    · have hf := zif_p c42 hf
                      refine lv_iload hx hb dX6_mark_81 (lv_at hl 1 rfl) ?_
                      refine lv_if_eq (tgt := 103) hx hb dX6_mark_83 (by decide) (fun c43 => ?_) (fun c43 => ?_)
                      · have hf := zif_p c43 hf
                        cases hf
                        have hk43 : ((.inl ()) : (Unit ⊕ Int32)) = t43 := hk43
                        have hf := hfo43
                        rw [← hk43] at hf
                        have hf : (some ((-1), σ)) = some (r, σ') := hf
                        refine lv_iconst (v := (-1)) hx hb dX6_mark_103 (by decide) ?_
                        obtain ⟨hq1, hq2⟩ := Prod.mk.inj (Option.some.inj hf)
                        subst hq1
                        subst hq2
                        exact z_iret S hG hS hlocks trivial hr dX6_mark_104
                      · have hf := zif_n c43 hf
                        refine lv_iload hx hb dX6_mark_86 (lv_at hl 1 rfl) ?_
                        refine lv_iload hx hb dX6_mark_88 (lv_at hl 5 rfl) ?_
                        refine lv_icmp_gt (tgt := 103) hx hb dX6_mark_90 (by decide) (fun c44 => ?_) (fun c44 => ?_)
                        · have hf := zif_p c44 hf
                          cases hf
                          have hk43 : ((.inl ()) : (Unit ⊕ Int32)) = t43 := hk43
                          have hf := hfo43
                          rw [← hk43] at hf
                          have hf : (some ((-1), σ)) = some (r, σ') := hf
                          refine lv_iconst (v := (-1)) hx hb dX6_mark_103 (by decide) ?_
                          obtain ⟨hq1, hq2⟩ := Prod.mk.inj (Option.some.inj hf)
                          subst hq1
                          subst hq2
                          exact z_iret S hG hS hlocks trivial hr dX6_mark_104
                        · have hf := zif_n c44 hf
                          refine lv_iload hx hb dX6_mark_93 (lv_at hl 6 rfl) ?_
                          refine lv_iload hx hb dX6_mark_95 (lv_at hl 1 rfl) ?_
                          refine lv_iushr (v := (zushr y6l43 (((zlushr x2 y7l43) &&& 15).toInt32))) hx hb dX6_mark_97 rfl ?_
                          refine lv_iconst (v := 1) hx hb dX6_mark_98 (by decide) ?_
                          refine lv_iand hx hb dX6_mark_99 ?_
                          refine lv_if_eq (tgt := 105) hx hb dX6_mark_100 (by decide) (fun c45 => ?_) (fun c45 => ?_)
                          · have hf := zif_p c45 hf
                            exact KJ105_43 y6l43 y7l43 (((zlushr x2 y7l43) &&& 15).toInt32) v34 H locs ls hG hS (lv_sub hl [2, 3, 4, 5, 6, 7, 1, 0] rfl) hf
                          · have hf := zif_n c45 hf
                            cases hf
                            have hk43 : ((.inl ()) : (Unit ⊕ Int32)) = t43 := hk43
                            have hf := hfo43
                            rw [← hk43] at hf
                            have hf : (some ((-1), σ)) = some (r, σ') := hf
                            refine lv_iconst (v := (-1)) hx hb dX6_mark_103 (by decide) ?_
                            obtain ⟨hq1, hq2⟩ := Prod.mk.inj (Option.some.inj hf)
                            subst hq1
                            subst hq2
                            exact z_iret S hG hS hlocks trivial hr dX6_mark_104
                  refine lv_if_ne (tgt := 73) hx hb dX6_mark_61 (by decide) (fun c32 => ?_) (fun c32 => ?_)
                  · rw [if_neg c32] at hf
                    refine lv_iconst (v := 0) hx hb dX6_mark_73 (by decide) ?_
                    exact Kv34 _ ls hl hf
                  · rw [if_pos c32] at hf
                    refine lv_iload hx hb dX6_mark_64 (lv_at hl 5 rfl) ?_
                    refine lv_if_ne (tgt := 73) hx hb dX6_mark_66 (by decide) (fun c33 => ?_) (fun c33 => ?_)
                    · rw [if_neg c33] at hf
                      refine lv_iconst (v := 0) hx hb dX6_mark_73 (by decide) ?_
                      exact Kv34 _ ls hl hf
                    · rw [if_pos c33] at hf
                      refine lv_iconst (v := 1) hx hb dX6_mark_69 (by decide) ?_
                      refine lv_goto (tgt := 74) hx hb dX6_mark_70 (by decide) ?_
                      exact Kv34 _ ls hl hf
            exact KL43 zFu 0 (40 - 4) H locs ls hG hS (lv_sub hl [3, 4, 5, 6, 1, 0] rfl) hw43
          · have hf := zif_n (fun h => c4 ((lg_cmp_eq (zlushr x2 40) 0).mpr h)) hf
            refine lv_iconst (v := (-1)) hx hb dX6_mark_32 (by decide) ?_
            obtain ⟨hq1, hq2⟩ := Prod.mk.inj (Option.some.inj hf)
            subst hq1
            subst hq2
            exact z_iret S hG hS hlocks trivial hr dX6_mark_33
  exact hK0 _ _ ls hG hS hl hf
