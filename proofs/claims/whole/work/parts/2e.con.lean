set_option maxRecDepth 100000 in
set_option maxHeartbeats 4000000 in
theorem c_X7_placeOf (l : Launch) (D : va_G) (aC : Nat → ClassId) (zs : Nat × Nat) (A : Nat → Prop) (nl : zNL) (ad : Nat → Nat → Nat → Nat) (σ : zM) (x0 : Int32) (x1 : Int32) (x2 : Int32) (r : Int32)  (hf : f_X7_placeOf x0 x1 x2 = r) : Met l yX7_placeOf (Cond.code yX7_placeOf cX7_placeOf 3 (some .int) :: wsL_law) ({ frames := 0, cells := 0, slots := 0, locals := 0 } : Room) (zP D aC zs zfX A nl ad σ [.int x0, .int x1, .int x2]) (zQ (some (.int r)) (fun t => zG D aC A nl ad σ t t.heap ∧ True) A) 0 0 A := by
  refine Met.ofW (cc := cX7_placeOf) (maxL := 3) (ret := (some .int)) (by decide) rfl ?_
  intro p e s m args below meth c s₁ B hml hv
  obtain ⟨rfl, hG, hZ⟩ := hv
  have hx := B.exec
  have hb := B.bytes
  have hr := B.returns
  have hts : ∀ w ∈ wsL_law, w.before ([.int x0, .int x1, .int x2] : List Value).toArray s = true := fun w h => (atoms_spec B.pre) w (List.mem_cons_of_mem _ h)
  have hown : s.vm.findClass RX7 = some m.cls := findClass_of_methodNamed B.named
  have hlocks := B.notSynchronized
  have S : zS p m c cX7_placeOf 3 s ([.int x0, .int x1, .int x2] : List Value).toArray RX7 := ⟨hx, hb, hml, hown, hts⟩
  have hS : va_S A s.heap s.heap [] := va_S.rf
  have hl := lv_entry ([.int x0, .int x1, .int x2]) (n := 3) (Nat.le_of_ble_eq_true rfl)
  rw [lg_entry_eq]
  generalize (lg_sl ([.int x0, .int x1, .int x2]) ++ List.replicate (3 - (lg_sl ([.int x0, .int x1, .int x2])).length) Slot.unset).toArray = ls at hl ⊢
  have hl : lv_has ls 3 [(0, .int x0), (1, .int x1), (2, .int x2)] := hl
  generalize hargs : ([.int x0, .int x1, .int x2] : List Value).toArray = args at S hts ⊢
  clear hargs
  have hK0 : ∀ (H : Heap) (locs : List Loc) (ls : Array Slot), zG D aC A nl ad σ s H → va_S A s.heap H locs → lv_has ls 3 [(0, .int x0), (1, .int x1), (2, .int x2)] → f_X7_placeOf x0 x1 x2 = r → zWk p l e ({ frames := 0, cells := 0, slots := 0, locals := 0 } : Room) s m args below meth c A (some (.int r)) (fun t => zG D aC A nl ad σ t t.heap ∧ True) H locs (F0 m 0 ls []) := by
    intro H locs ls hG hS hl hf
    unfold f_X7_placeOf at hf
    refine lv_iload_n hx hb dX7_placeOf_0 rfl (lv_at hl 0 rfl) ?_
    refine lv_bipush (v := 120) hx hb dX7_placeOf_1 (by decide) ?_
    refine lv_imul hx hb dX7_placeOf_3 ?_
    refine lv_iload_n hx hb dX7_placeOf_4 rfl (lv_at hl 2 rfl) ?_
    refine lv_iconst (v := 1) hx hb dX7_placeOf_5 (by decide) ?_
    refine lv_iadd hx hb dX7_placeOf_6 ?_
    refine lv_bipush (v := 12) hx hb dX7_placeOf_7 (by decide) ?_
    refine lv_imul hx hb dX7_placeOf_9 ?_
    refine lv_iadd hx hb dX7_placeOf_10 ?_
    refine lv_iload_n hx hb dX7_placeOf_11 rfl (lv_at hl 1 rfl) ?_
    refine lv_iadd hx hb dX7_placeOf_12 ?_
    refine lv_iconst (v := 1) hx hb dX7_placeOf_13 (by decide) ?_
    refine lv_iadd hx hb dX7_placeOf_14 ?_
    have hq := hf
    subst hq
    exact z_iret S hG hS hlocks trivial hr dX7_placeOf_15
  exact hK0 _ _ ls hG hS hl hf
set_option maxRecDepth 100000 in
set_option maxHeartbeats 4000000 in
theorem c_X7_thingAt (l : Launch) (D : va_G) (aC : Nat → ClassId) (zs : Nat × Nat) (A : Nat → Prop) (nl : zNL) (ad : Nat → Nat → Nat → Nat) (σ : zM) (o : Nat) (x1 : Int32) (r : Int32) (h_o : zin nl 7 o) (hf : f_X7_thingAt σ o x1 = some r) : Met l yX7_thingAt (Cond.code yX7_thingAt cX7_thingAt 2 (some .int) :: wsL_law) ({ frames := 0, cells := 0, slots := 0, locals := 0 } : Room) (zP D aC zs zfX A nl ad σ [.ref (ad 7 o 0), .int x1]) (zQ (some (.int r)) (fun t => zG D aC A nl ad σ t t.heap ∧ True) A) 0 0 A := by
  refine Met.ofW (cc := cX7_thingAt) (maxL := 2) (ret := (some .int)) (by decide) rfl ?_
  intro p e s m args below meth c s₁ B hml hv
  obtain ⟨rfl, hG, hZ⟩ := hv
  have hx := B.exec
  have hb := B.bytes
  have hr := B.returns
  have hts : ∀ w ∈ wsL_law, w.before ([.ref (ad 7 o 0), .int x1] : List Value).toArray s = true := fun w h => (atoms_spec B.pre) w (List.mem_cons_of_mem _ h)
  have hown : s.vm.findClass RX7 = some m.cls := findClass_of_methodNamed B.named
  have hlocks := B.notSynchronized
  have S : zS p m c cX7_thingAt 2 s ([.ref (ad 7 o 0), .int x1] : List Value).toArray RX7 := ⟨hx, hb, hml, hown, hts⟩
  have hS : va_S A s.heap s.heap [] := va_S.rf
  have hl := lv_entry ([.ref (ad 7 o 0), .int x1]) (n := 2) (Nat.le_of_ble_eq_true rfl)
  rw [lg_entry_eq]
  generalize (lg_sl ([.ref (ad 7 o 0), .int x1]) ++ List.replicate (2 - (lg_sl ([.ref (ad 7 o 0), .int x1])).length) Slot.unset).toArray = ls at hl ⊢
  have hl : lv_has ls 2 [(0, .ref (ad 7 o 0)), (1, .int x1)] := hl
  generalize hargs : ([.ref (ad 7 o 0), .int x1] : List Value).toArray = args at S hts ⊢
  clear hargs
  have hK0 : ∀ (H : Heap) (locs : List Loc) (ls : Array Slot), zG D aC A nl ad σ s H → va_S A s.heap H locs → lv_has ls 2 [(0, .ref (ad 7 o 0)), (1, .int x1)] → f_X7_thingAt σ o x1 = some r → zWk p l e ({ frames := 0, cells := 0, slots := 0, locals := 0 } : Room) s m args below meth c A (some (.int r)) (fun t => zG D aC A nl ad σ t t.heap ∧ True) H locs (F0 m 0 ls []) := by
    intro H locs ls hG hS hl hf
    unfold f_X7_thingAt at hf
    refine lv_iload_n hx hb dX7_thingAt_0 rfl (lv_at hl 1 rfl) ?_
    refine lv_if_lt (tgt := 22) hx hb dX7_thingAt_1 (by decide) (fun c1 => ?_) (fun c1 => ?_)
    · have hf := zif_p c1 hf
      refine lv_iconst (v := 0) hx hb dX7_thingAt_22 (by decide) ?_
      have hq := (Option.some.inj hf)
      subst hq
      exact z_iret S hG hS hlocks trivial hr dX7_thingAt_23
    · have hf := zif_n c1 hf
      refine lv_iload_n hx hb dX7_thingAt_4 rfl (lv_at hl 1 rfl) ?_
      refine lv_aload_n hx hb dX7_thingAt_5 rfl (lv_at hl 0 rfl) ?_
      refine z_get (c0 := 7) (i0 := o) (k0 := 2) (T := TX7) (v := .ref (ad 7 o 3)) S hG h_o rfl inlX7 (by decide) rfl zw_792 rfl dX7_thingAt_6 ?_
      refine z_alen (c0 := 7) (i0 := o) (k0 := 2) (n := 4) (v := 240) S hG h_o (by decide) rfl (by decide) (by rfl) dX7_thingAt_9 ?_
      refine lv_icmp_ge (tgt := 22) hx hb dX7_thingAt_10 (by decide) (fun c2 => ?_) (fun c2 => ?_)
      · have hf := zif_p c2 hf
        refine lv_iconst (v := 0) hx hb dX7_thingAt_22 (by decide) ?_
        have hq := (Option.some.inj hf)
        subst hq
        exact z_iret S hG hS hlocks trivial hr dX7_thingAt_23
      · have hf := zif_n c2 hf
        refine lv_aload_n hx hb dX7_thingAt_13 rfl (lv_at hl 0 rfl) ?_
        refine z_get (c0 := 7) (i0 := o) (k0 := 2) (T := TX7) (v := .ref (ad 7 o 3)) S hG h_o rfl inlX7 (by decide) rfl zw_792 rfl dX7_thingAt_14 ?_
        refine lv_iload_n hx hb dX7_thingAt_17 rfl (lv_at hl 1 rfl) ?_
        obtain ⟨i3, hi3, hf⟩ := zbi hf
        refine z_iald (c0 := 7) (i0 := o) (k0 := 2) S hG h_o (by decide) rfl hi3 dX7_thingAt_18 ?_
        refine lv_goto (tgt := 23) hx hb dX7_thingAt_19 (by decide) ?_
        have hq := (Option.some.inj hf)
        subst hq
        exact z_iret S hG hS hlocks trivial hr dX7_thingAt_23
  exact hK0 _ _ ls hG hS hl hf
set_option maxRecDepth 100000 in
set_option maxHeartbeats 4000000 in
theorem c_X7_countOf (l : Launch) (D : va_G) (aC : Nat → ClassId) (zs : Nat × Nat) (A : Nat → Prop) (nl : zNL) (ad : Nat → Nat → Nat → Nat) (σ : zM) (o : Nat) (x1 : Int32) (r : Int32) (h_o : zin nl 7 o) (hf : f_X7_countOf σ o x1 = some r) : Met l yX7_countOf (Cond.code yX7_countOf cX7_countOf 2 (some .int) :: wsL_law) ({ frames := 0, cells := 0, slots := 0, locals := 0 } : Room) (zP D aC zs zfX A nl ad σ [.ref (ad 7 o 0), .int x1]) (zQ (some (.int r)) (fun t => zG D aC A nl ad σ t t.heap ∧ True) A) 0 0 A := by
  refine Met.ofW (cc := cX7_countOf) (maxL := 2) (ret := (some .int)) (by decide) rfl ?_
  intro p e s m args below meth c s₁ B hml hv
  obtain ⟨rfl, hG, hZ⟩ := hv
  have hx := B.exec
  have hb := B.bytes
  have hr := B.returns
  have hts : ∀ w ∈ wsL_law, w.before ([.ref (ad 7 o 0), .int x1] : List Value).toArray s = true := fun w h => (atoms_spec B.pre) w (List.mem_cons_of_mem _ h)
  have hown : s.vm.findClass RX7 = some m.cls := findClass_of_methodNamed B.named
  have hlocks := B.notSynchronized
  have S : zS p m c cX7_countOf 2 s ([.ref (ad 7 o 0), .int x1] : List Value).toArray RX7 := ⟨hx, hb, hml, hown, hts⟩
  have hS : va_S A s.heap s.heap [] := va_S.rf
  have hl := lv_entry ([.ref (ad 7 o 0), .int x1]) (n := 2) (Nat.le_of_ble_eq_true rfl)
  rw [lg_entry_eq]
  generalize (lg_sl ([.ref (ad 7 o 0), .int x1]) ++ List.replicate (2 - (lg_sl ([.ref (ad 7 o 0), .int x1])).length) Slot.unset).toArray = ls at hl ⊢
  have hl : lv_has ls 2 [(0, .ref (ad 7 o 0)), (1, .int x1)] := hl
  generalize hargs : ([.ref (ad 7 o 0), .int x1] : List Value).toArray = args at S hts ⊢
  clear hargs
  have hK0 : ∀ (H : Heap) (locs : List Loc) (ls : Array Slot), zG D aC A nl ad σ s H → va_S A s.heap H locs → lv_has ls 2 [(0, .ref (ad 7 o 0)), (1, .int x1)] → f_X7_countOf σ o x1 = some r → zWk p l e ({ frames := 0, cells := 0, slots := 0, locals := 0 } : Room) s m args below meth c A (some (.int r)) (fun t => zG D aC A nl ad σ t t.heap ∧ True) H locs (F0 m 0 ls []) := by
    intro H locs ls hG hS hl hf
    unfold f_X7_countOf at hf
    refine lv_iload_n hx hb dX7_countOf_0 rfl (lv_at hl 1 rfl) ?_
    refine lv_if_lt (tgt := 22) hx hb dX7_countOf_1 (by decide) (fun c1 => ?_) (fun c1 => ?_)
    · have hf := zif_p c1 hf
      refine lv_iconst (v := 0) hx hb dX7_countOf_22 (by decide) ?_
      have hq := (Option.some.inj hf)
      subst hq
      exact z_iret S hG hS hlocks trivial hr dX7_countOf_23
    · have hf := zif_n c1 hf
      refine lv_iload_n hx hb dX7_countOf_4 rfl (lv_at hl 1 rfl) ?_
      refine lv_aload_n hx hb dX7_countOf_5 rfl (lv_at hl 0 rfl) ?_
      refine z_get (c0 := 7) (i0 := o) (k0 := 3) (T := TX7) (v := .ref (ad 7 o 4)) S hG h_o rfl inlX7 (by decide) rfl zw_793 rfl dX7_countOf_6 ?_
      refine z_alen (c0 := 7) (i0 := o) (k0 := 3) (n := 4) (v := 15) S hG h_o (by decide) rfl (by decide) (by rfl) dX7_countOf_9 ?_
      refine lv_icmp_ge (tgt := 22) hx hb dX7_countOf_10 (by decide) (fun c2 => ?_) (fun c2 => ?_)
      · have hf := zif_p c2 hf
        refine lv_iconst (v := 0) hx hb dX7_countOf_22 (by decide) ?_
        have hq := (Option.some.inj hf)
        subst hq
        exact z_iret S hG hS hlocks trivial hr dX7_countOf_23
      · have hf := zif_n c2 hf
        refine lv_aload_n hx hb dX7_countOf_13 rfl (lv_at hl 0 rfl) ?_
        refine z_get (c0 := 7) (i0 := o) (k0 := 3) (T := TX7) (v := .ref (ad 7 o 4)) S hG h_o rfl inlX7 (by decide) rfl zw_793 rfl dX7_countOf_14 ?_
        refine lv_iload_n hx hb dX7_countOf_17 rfl (lv_at hl 1 rfl) ?_
        obtain ⟨i3, hi3, hf⟩ := zbi hf
        refine z_iald (c0 := 7) (i0 := o) (k0 := 3) S hG h_o (by decide) rfl hi3 dX7_countOf_18 ?_
        refine lv_goto (tgt := 23) hx hb dX7_countOf_19 (by decide) ?_
        have hq := (Option.some.inj hf)
        subst hq
        exact z_iret S hG hS hlocks trivial hr dX7_countOf_23
  exact hK0 _ _ ls hG hS hl hf
set_option maxRecDepth 100000 in
set_option maxHeartbeats 4000000 in
theorem c_X7_allCells (l : Launch) (D : va_G) (aC : Nat → ClassId) (zs : Nat × Nat) (A : Nat → Prop) (nl : zNL) (ad : Nat → Nat → Nat → Nat) (σ : zM) (o : Nat) (r : Int32) (h_o : zin nl 7 o) (hf : f_X7_allCells σ o = some r) : Met l yX7_allCells (Cond.code yX7_allCells cX7_allCells 1 (some .int) :: wsL_law) ({ frames := 0, cells := 0, slots := 0, locals := 0 } : Room) (zP D aC zs zfX A nl ad σ [.ref (ad 7 o 0)]) (zQ (some (.int r)) (fun t => zG D aC A nl ad σ t t.heap ∧ True) A) 0 0 A := by
  refine Met.ofW (cc := cX7_allCells) (maxL := 1) (ret := (some .int)) (by decide) rfl ?_
  intro p e s m args below meth c s₁ B hml hv
  obtain ⟨rfl, hG, hZ⟩ := hv
  have hx := B.exec
  have hb := B.bytes
  have hr := B.returns
  have hts : ∀ w ∈ wsL_law, w.before ([.ref (ad 7 o 0)] : List Value).toArray s = true := fun w h => (atoms_spec B.pre) w (List.mem_cons_of_mem _ h)
  have hown : s.vm.findClass RX7 = some m.cls := findClass_of_methodNamed B.named
  have hlocks := B.notSynchronized
  have S : zS p m c cX7_allCells 1 s ([.ref (ad 7 o 0)] : List Value).toArray RX7 := ⟨hx, hb, hml, hown, hts⟩
  have hS : va_S A s.heap s.heap [] := va_S.rf
  have hl := lv_entry ([.ref (ad 7 o 0)]) (n := 1) (Nat.le_of_ble_eq_true rfl)
  rw [lg_entry_eq]
  generalize (lg_sl ([.ref (ad 7 o 0)]) ++ List.replicate (1 - (lg_sl ([.ref (ad 7 o 0)])).length) Slot.unset).toArray = ls at hl ⊢
  have hl : lv_has ls 1 [(0, .ref (ad 7 o 0))] := hl
  generalize hargs : ([.ref (ad 7 o 0)] : List Value).toArray = args at S hts ⊢
  clear hargs
  have hK0 : ∀ (H : Heap) (locs : List Loc) (ls : Array Slot), zG D aC A nl ad σ s H → va_S A s.heap H locs → lv_has ls 1 [(0, .ref (ad 7 o 0))] → f_X7_allCells σ o = some r → zWk p l e ({ frames := 0, cells := 0, slots := 0, locals := 0 } : Room) s m args below meth c A (some (.int r)) (fun t => zG D aC A nl ad σ t t.heap ∧ True) H locs (F0 m 0 ls []) := by
    intro H locs ls hG hS hl hf
    unfold f_X7_allCells at hf
    refine lv_aload_n hx hb dX7_allCells_0 rfl (lv_at hl 0 rfl) ?_
    refine z_get (c0 := 7) (i0 := o) (k0 := 4) (T := TX7) (v := .ref (ad 7 o 5)) S hG h_o rfl inlX7 (by decide) rfl zw_794 rfl dX7_allCells_1 ?_
    refine lv_iconst (v := 0) hx hb dX7_allCells_4 (by decide) ?_
    obtain ⟨i1, hi1, hf⟩ := zbi hf
    refine z_iald (c0 := 7) (i0 := o) (k0 := 4) S hG h_o (by decide) rfl hi1 dX7_allCells_5 ?_
    refine lv_aload_n hx hb dX7_allCells_6 rfl (lv_at hl 0 rfl) ?_
    refine z_get (c0 := 7) (i0 := o) (k0 := 4) (T := TX7) (v := .ref (ad 7 o 5)) S hG h_o rfl inlX7 (by decide) rfl zw_794 rfl dX7_allCells_7 ?_
    refine lv_iconst (v := 1) hx hb dX7_allCells_10 (by decide) ?_
    obtain ⟨i2, hi2, hf⟩ := zbi hf
    refine z_iald (c0 := 7) (i0 := o) (k0 := 4) S hG h_o (by decide) rfl hi2 dX7_allCells_11 ?_
    refine lv_iadd hx hb dX7_allCells_12 ?_
    have hq := (Option.some.inj hf)
    subst hq
    exact z_iret S hG hS hlocks trivial hr dX7_allCells_13
  exact hK0 _ _ ls hG hS hl hf
set_option maxRecDepth 100000 in
set_option maxHeartbeats 4000000 in
theorem c_X7_roomsWithCells (l : Launch) (D : va_G) (aC : Nat → ClassId) (zs : Nat × Nat) (A : Nat → Prop) (nl : zNL) (ad : Nat → Nat → Nat → Nat) (σ : zM) (o : Nat) (r : Int32) (h_o : zin nl 7 o) (hf : f_X7_roomsWithCells σ o = some r) : Met l yX7_roomsWithCells (Cond.code yX7_roomsWithCells cX7_roomsWithCells 3 (some .int) :: wsL_law) ({ frames := 0, cells := 0, slots := 0, locals := 0 } : Room) (zP D aC zs zfX A nl ad σ [.ref (ad 7 o 0)]) (zQ (some (.int r)) (fun t => zG D aC A nl ad σ t t.heap ∧ True) A) 0 0 A := by
  refine Met.ofW (cc := cX7_roomsWithCells) (maxL := 3) (ret := (some .int)) (by decide) rfl ?_
  intro p e s m args below meth c s₁ B hml hv
  obtain ⟨rfl, hG, hZ⟩ := hv
  have hx := B.exec
  have hb := B.bytes
  have hr := B.returns
  have hts : ∀ w ∈ wsL_law, w.before ([.ref (ad 7 o 0)] : List Value).toArray s = true := fun w h => (atoms_spec B.pre) w (List.mem_cons_of_mem _ h)
  have hown : s.vm.findClass RX7 = some m.cls := findClass_of_methodNamed B.named
  have hlocks := B.notSynchronized
  have S : zS p m c cX7_roomsWithCells 3 s ([.ref (ad 7 o 0)] : List Value).toArray RX7 := ⟨hx, hb, hml, hown, hts⟩
  have hS : va_S A s.heap s.heap [] := va_S.rf
  have hl := lv_entry ([.ref (ad 7 o 0)]) (n := 3) (Nat.le_of_ble_eq_true rfl)
  rw [lg_entry_eq]
  generalize (lg_sl ([.ref (ad 7 o 0)]) ++ List.replicate (3 - (lg_sl ([.ref (ad 7 o 0)])).length) Slot.unset).toArray = ls at hl ⊢
  have hl : lv_has ls 3 [(0, .ref (ad 7 o 0))] := hl
  generalize hargs : ([.ref (ad 7 o 0)] : List Value).toArray = args at S hts ⊢
  clear hargs
  have hK0 : ∀ (H : Heap) (locs : List Loc) (ls : Array Slot), zG D aC A nl ad σ s H → va_S A s.heap H locs → lv_has ls 3 [(0, .ref (ad 7 o 0))] → f_X7_roomsWithCells σ o = some r → zWk p l e ({ frames := 0, cells := 0, slots := 0, locals := 0 } : Room) s m args below meth c A (some (.int r)) (fun t => zG D aC A nl ad σ t t.heap ∧ True) H locs (F0 m 0 ls []) := by
    intro H locs ls hG hS hl hf
    unfold f_X7_roomsWithCells at hf
    refine lv_iconst (v := 0) hx hb dX7_roomsWithCells_0 (by decide) ?_
    refine lv_istore_n (lv' := [(1, .int 0), (0, .ref (ad 7 o 0))]) hx hb dX7_roomsWithCells_1 rfl hl (by decide) rfl (fun ls hl => ?_)
    refine lv_iconst (v := 1) hx hb dX7_roomsWithCells_2 (by decide) ?_
    refine lv_istore_n (lv' := [(2, .int 1), (1, .int 0), (0, .ref (ad 7 o 0))]) hx hb dX7_roomsWithCells_3 rfl hl (by decide) rfl (fun ls hl => ?_)
    obtain ⟨t4, hw4, hfo4⟩ := zbi hf
    have KL4 : ∀ (n : Nat) (y1l4 : Int32) (y2l4 : Int32) (H : Heap) (locs : List Loc) (ls : Array Slot), zG D aC A nl ad σ s H → va_S A s.heap H locs → lv_has ls 3 [(0, .ref (ad 7 o 0)), (1, .int y1l4), (2, .int y2l4)] → zwh (fun (q : (Int32 × Int32)) => f_X7_roomsWithCells_L4 σ o q.1 q.2) n (y1l4, y2l4) = some t4 → zWk p l e ({ frames := 0, cells := 0, slots := 0, locals := 0 } : Room) s m args below meth c A (some (.int r)) (fun t => zG D aC A nl ad σ t t.heap ∧ True) H locs (F0 m 4 ls []) := by
      intro n
      induction n with
      | zero =>
        intro y1l4 y2l4 H locs ls hG hS hl hw
        exact (zwh_0 hw).elim
      | succ n ih4 =>
        intro y1l4 y2l4 H locs ls hG hS hl hw
        obtain ⟨rr4, hf, hk4⟩ := zwh_u hw
        have hf : f_X7_roomsWithCells_L4 σ o y1l4 y2l4 = some rr4 := hf
        unfold f_X7_roomsWithCells_L4 at hf
        refine lv_iload_n hx hb dX7_roomsWithCells_4 rfl (lv_at hl 2 rfl) ?_
        refine lv_bipush (v := 12) hx hb dX7_roomsWithCells_5 (by decide) ?_
        refine lv_icmp_gt (tgt := 42) hx hb dX7_roomsWithCells_7 (by decide) (fun c7 => ?_) (fun c7 => ?_)
        · have hf := zif_p c7 hf
          cases hf
          have hk4 : (y1l4 : Int32) = t4 := hk4
          have hf := hfo4
          rw [← hk4] at hf
          have hf : (some y1l4) = some r := hf
          refine lv_iload_n hx hb dX7_roomsWithCells_42 rfl (lv_at hl 1 rfl) ?_
          have hq := (Option.some.inj hf)
          subst hq
          exact z_iret S hG hS hlocks trivial hr dX7_roomsWithCells_43
        · have hf := zif_n c7 hf
          refine lv_iload_n hx hb dX7_roomsWithCells_10 rfl (lv_at hl 2 rfl) ?_
          refine lv_aload_n hx hb dX7_roomsWithCells_11 rfl (lv_at hl 0 rfl) ?_
          refine z_get (c0 := 7) (i0 := o) (k0 := 3) (T := TX7) (v := .ref (ad 7 o 4)) S hG h_o rfl inlX7 (by decide) rfl zw_793 rfl dX7_roomsWithCells_12 ?_
          refine z_alen (c0 := 7) (i0 := o) (k0 := 3) (n := 4) (v := 15) S hG h_o (by decide) rfl (by decide) (by rfl) dX7_roomsWithCells_15 ?_
          refine lv_icmp_ge (tgt := 42) hx hb dX7_roomsWithCells_16 (by decide) (fun c8 => ?_) (fun c8 => ?_)
          · have hf := zif_p c8 hf
            cases hf
            have hk4 : (y1l4 : Int32) = t4 := hk4
            have hf := hfo4
            rw [← hk4] at hf
            have hf : (some y1l4) = some r := hf
            refine lv_iload_n hx hb dX7_roomsWithCells_42 rfl (lv_at hl 1 rfl) ?_
            have hq := (Option.some.inj hf)
            subst hq
            exact z_iret S hG hS hlocks trivial hr dX7_roomsWithCells_43
          · have hf := zif_n c8 hf
            refine lv_iload_n hx hb dX7_roomsWithCells_19 rfl (lv_at hl 1 rfl) ?_
            refine lv_aload_n hx hb dX7_roomsWithCells_20 rfl (lv_at hl 0 rfl) ?_
            refine z_get (c0 := 7) (i0 := o) (k0 := 3) (T := TX7) (v := .ref (ad 7 o 4)) S hG h_o rfl inlX7 (by decide) rfl zw_793 rfl dX7_roomsWithCells_21 ?_
            refine lv_iload_n hx hb dX7_roomsWithCells_24 rfl (lv_at hl 2 rfl) ?_
            obtain ⟨i9, hi9, hf⟩ := zbi hf
            refine z_iald (c0 := 7) (i0 := o) (k0 := 3) S hG h_o (by decide) rfl hi9 dX7_roomsWithCells_25 ?_
            have Kv12 : ∀ (v12 : Int32) (ls : Array Slot), lv_has ls 3 [(0, .ref (ad 7 o 0)), (1, .int y1l4), (2, .int y2l4)] → (some (.inl ((y1l4 + v12), (y2l4 + 1)))) = some rr4 → zWk p l e ({ frames := 0, cells := 0, slots := 0, locals := 0 } : Room) s m args below meth c A (some (.int r)) (fun t => zG D aC A nl ad σ t t.heap ∧ True) H locs (F0 m 34 ls [.int v12, .int y1l4]) := by
              intro v12 ls hl hf
              refine lv_iadd hx hb dX7_roomsWithCells_34 ?_
              refine lv_istore_n (lv' := [(1, .int (y1l4 + v12)), (0, .ref (ad 7 o 0)), (2, .int y2l4)]) hx hb dX7_roomsWithCells_35 rfl hl (by decide) rfl (fun ls hl => ?_)
              refine lv_iinc (v := (y2l4 + 1)) (lv' := [(2, .int (y2l4 + 1)), (1, .int (y1l4 + v12)), (0, .ref (ad 7 o 0))]) hx hb dX7_roomsWithCells_36 hl (k := 2) rfl rfl (by decide) rfl (fun ls hl => ?_)
              refine lv_goto (tgt := 4) hx hb dX7_roomsWithCells_39 (by decide) ?_
              cases hf
              exact ih4 (y1l4 + v12) (y2l4 + 1) H locs ls hG hS (lv_sub hl [2, 1, 0] rfl) hk4
            refine lv_if_le (tgt := 33) hx hb dX7_roomsWithCells_26 (by decide) (fun c11 => ?_) (fun c11 => ?_)
            · rw [if_pos c11] at hf
              refine lv_iconst (v := 0) hx hb dX7_roomsWithCells_33 (by decide) ?_
              exact Kv12 _ ls hl hf
            · rw [if_neg c11] at hf
              refine lv_iconst (v := 1) hx hb dX7_roomsWithCells_29 (by decide) ?_
              refine lv_goto (tgt := 34) hx hb dX7_roomsWithCells_30 (by decide) ?_
              exact Kv12 _ ls hl hf
    exact KL4 zFu 0 1 H locs ls hG hS (lv_sub hl [2, 1, 0] rfl) hw4
  exact hK0 _ _ ls hG hS hl hf
set_option maxRecDepth 100000 in
set_option maxHeartbeats 4000000 in
theorem c_X7_storeysWithCells (l : Launch) (D : va_G) (aC : Nat → ClassId) (zs : Nat × Nat) (A : Nat → Prop) (nl : zNL) (ad : Nat → Nat → Nat → Nat) (σ : zM) (o : Nat) (r : Int32) (h_o : zin nl 7 o) (hf : f_X7_storeysWithCells σ o = some r) : Met l yX7_storeysWithCells (Cond.code yX7_storeysWithCells cX7_storeysWithCells 1 (some .int) :: wsL_law) ({ frames := 0, cells := 0, slots := 0, locals := 0 } : Room) (zP D aC zs zfX A nl ad σ [.ref (ad 7 o 0)]) (zQ (some (.int r)) (fun t => zG D aC A nl ad σ t t.heap ∧ True) A) 0 0 A := by
  refine Met.ofW (cc := cX7_storeysWithCells) (maxL := 1) (ret := (some .int)) (by decide) rfl ?_
  intro p e s m args below meth c s₁ B hml hv
  obtain ⟨rfl, hG, hZ⟩ := hv
  have hx := B.exec
  have hb := B.bytes
  have hr := B.returns
  have hts : ∀ w ∈ wsL_law, w.before ([.ref (ad 7 o 0)] : List Value).toArray s = true := fun w h => (atoms_spec B.pre) w (List.mem_cons_of_mem _ h)
  have hown : s.vm.findClass RX7 = some m.cls := findClass_of_methodNamed B.named
  have hlocks := B.notSynchronized
  have S : zS p m c cX7_storeysWithCells 1 s ([.ref (ad 7 o 0)] : List Value).toArray RX7 := ⟨hx, hb, hml, hown, hts⟩
  have hS : va_S A s.heap s.heap [] := va_S.rf
  have hl := lv_entry ([.ref (ad 7 o 0)]) (n := 1) (Nat.le_of_ble_eq_true rfl)
  rw [lg_entry_eq]
  generalize (lg_sl ([.ref (ad 7 o 0)]) ++ List.replicate (1 - (lg_sl ([.ref (ad 7 o 0)])).length) Slot.unset).toArray = ls at hl ⊢
  have hl : lv_has ls 1 [(0, .ref (ad 7 o 0))] := hl
  generalize hargs : ([.ref (ad 7 o 0)] : List Value).toArray = args at S hts ⊢
  clear hargs
  have hK0 : ∀ (H : Heap) (locs : List Loc) (ls : Array Slot), zG D aC A nl ad σ s H → va_S A s.heap H locs → lv_has ls 1 [(0, .ref (ad 7 o 0))] → f_X7_storeysWithCells σ o = some r → zWk p l e ({ frames := 0, cells := 0, slots := 0, locals := 0 } : Room) s m args below meth c A (some (.int r)) (fun t => zG D aC A nl ad σ t t.heap ∧ True) H locs (F0 m 0 ls []) := by
    intro H locs ls hG hS hl hf
    unfold f_X7_storeysWithCells at hf
    refine lv_aload_n hx hb dX7_storeysWithCells_0 rfl (lv_at hl 0 rfl) ?_
    refine z_get (c0 := 7) (i0 := o) (k0 := 4) (T := TX7) (v := .ref (ad 7 o 5)) S hG h_o rfl inlX7 (by decide) rfl zw_794 rfl dX7_storeysWithCells_1 ?_
    refine lv_iconst (v := 0) hx hb dX7_storeysWithCells_4 (by decide) ?_
    obtain ⟨i1, hi1, hf⟩ := zbi hf
    refine z_iald (c0 := 7) (i0 := o) (k0 := 4) S hG h_o (by decide) rfl hi1 dX7_storeysWithCells_5 ?_
    have Kv4 : ∀ (v4 : Int32) (ls : Array Slot), lv_has ls 1 [(0, .ref (ad 7 o 0))] → ((zix 1 2).bind fun i9 => some (v4 + (if (zA σ 7 o 4 i9) ≤ 0 then 0 else 1 : Int32))) = some r → zWk p l e ({ frames := 0, cells := 0, slots := 0, locals := 0 } : Room) s m args below meth c A (some (.int r)) (fun t => zG D aC A nl ad σ t t.heap ∧ True) H locs (F0 m 14 ls [.int v4]) := by
      intro v4 ls hl hf
      refine lv_aload_n hx hb dX7_storeysWithCells_14 rfl (lv_at hl 0 rfl) ?_
      refine z_get (c0 := 7) (i0 := o) (k0 := 4) (T := TX7) (v := .ref (ad 7 o 5)) S hG h_o rfl inlX7 (by decide) rfl zw_794 rfl dX7_storeysWithCells_15 ?_
      refine lv_iconst (v := 1) hx hb dX7_storeysWithCells_18 (by decide) ?_
      obtain ⟨i9, hi9, hf⟩ := zbi hf
      refine z_iald (c0 := 7) (i0 := o) (k0 := 4) S hG h_o (by decide) rfl hi9 dX7_storeysWithCells_19 ?_
      have Kv12 : ∀ (v12 : Int32) (ls : Array Slot), lv_has ls 1 [(0, .ref (ad 7 o 0))] → (some (v4 + v12)) = some r → zWk p l e ({ frames := 0, cells := 0, slots := 0, locals := 0 } : Room) s m args below meth c A (some (.int r)) (fun t => zG D aC A nl ad σ t t.heap ∧ True) H locs (F0 m 28 ls [.int v12, .int v4]) := by
        intro v12 ls hl hf
        refine lv_iadd hx hb dX7_storeysWithCells_28 ?_
        have hq := (Option.some.inj hf)
        subst hq
        exact z_iret S hG hS hlocks trivial hr dX7_storeysWithCells_29
      refine lv_if_le (tgt := 27) hx hb dX7_storeysWithCells_20 (by decide) (fun c11 => ?_) (fun c11 => ?_)
      · rw [if_pos c11] at hf
        refine lv_iconst (v := 0) hx hb dX7_storeysWithCells_27 (by decide) ?_
        exact Kv12 _ ls hl hf
      · rw [if_neg c11] at hf
        refine lv_iconst (v := 1) hx hb dX7_storeysWithCells_23 (by decide) ?_
        refine lv_goto (tgt := 28) hx hb dX7_storeysWithCells_24 (by decide) ?_
        exact Kv12 _ ls hl hf
    refine lv_if_le (tgt := 13) hx hb dX7_storeysWithCells_6 (by decide) (fun c3 => ?_) (fun c3 => ?_)
    · rw [if_pos c3] at hf
      refine lv_iconst (v := 0) hx hb dX7_storeysWithCells_13 (by decide) ?_
      exact Kv4 _ ls hl hf
    · rw [if_neg c3] at hf
      refine lv_iconst (v := 1) hx hb dX7_storeysWithCells_9 (by decide) ?_
      refine lv_goto (tgt := 14) hx hb dX7_storeysWithCells_10 (by decide) ?_
      exact Kv4 _ ls hl hf
  exact hK0 _ _ ls hG hS hl hf
set_option maxRecDepth 100000 in
set_option maxHeartbeats 4000000 in
theorem c_X7_put (l : Launch) (D : va_G) (aC : Nat → ClassId) (zs : Nat × Nat) (A : Nat → Prop) (nl : zNL) (ad : Nat → Nat → Nat → Nat) (σ : zM) (o : Nat) (x1 : Int32) (x2 : Int32)  (σ' : zM) (h_o : zin nl 7 o) (hf : f_X7_put σ o x1 x2 = some σ') : Met l yX7_put (Cond.code yX7_put cX7_put 7 none :: wsL_law) ({ frames := 1, cells := 0, slots := 0, locals := 21 } : Room) (zP D aC zs zfX A nl ad σ [.ref (ad 7 o 0), .int x1, .int x2]) (zQ none (fun t => zG D aC A nl ad σ' t t.heap ∧ True) A) 0 0 A := by
  refine Met.ofW (cc := cX7_put) (maxL := 7) (ret := none) (by decide) rfl ?_
  intro p e s m args below meth c s₁ B hml hv
  obtain ⟨rfl, hG, hZ⟩ := hv
  have hx := B.exec
  have hb := B.bytes
  have hr := B.returns
  have hts : ∀ w ∈ wsL_law, w.before ([.ref (ad 7 o 0), .int x1, .int x2] : List Value).toArray s = true := fun w h => (atoms_spec B.pre) w (List.mem_cons_of_mem _ h)
  have hown : s.vm.findClass RX7 = some m.cls := findClass_of_methodNamed B.named
  have hlocks := B.notSynchronized
  have S : zS p m c cX7_put 7 s ([.ref (ad 7 o 0), .int x1, .int x2] : List Value).toArray RX7 := ⟨hx, hb, hml, hown, hts⟩
  have hS : va_S A s.heap s.heap [] := va_S.rf
  have hl := lv_entry ([.ref (ad 7 o 0), .int x1, .int x2]) (n := 7) (Nat.le_of_ble_eq_true rfl)
  rw [lg_entry_eq]
  generalize (lg_sl ([.ref (ad 7 o 0), .int x1, .int x2]) ++ List.replicate (7 - (lg_sl ([.ref (ad 7 o 0), .int x1, .int x2])).length) Slot.unset).toArray = ls at hl ⊢
  have hl : lv_has ls 7 [(0, .ref (ad 7 o 0)), (1, .int x1), (2, .int x2)] := hl
  generalize hargs : ([.ref (ad 7 o 0), .int x1, .int x2] : List Value).toArray = args at S hts ⊢
  clear hargs
  have KJ122 : ∀ (y3b122 : Int32) (y4b122 : Int32)  (σb122 : zM) (H : Heap) (locs : List Loc) (ls : Array Slot), zG D aC A nl ad σb122 s H → va_S A s.heap H locs → lv_has ls 7 [(0, .ref (ad 7 o 0)), (1, .int x1), (2, .int x2), (3, .int y3b122), (4, .int y4b122)] → (f_X7_put_B122 σb122 o x1 x2 y3b122 y4b122) = some σ' → zWk p l e ({ frames := 1, cells := 0, slots := 0, locals := 21 } : Room) s m args below meth c A none (fun t => zG D aC A nl ad σ' t t.heap ∧ True) H locs (F0 m 122 ls []) := by
    intro y3b122 y4b122  σb122 H locs ls hG hS hl hf
    unfold f_X7_put_B122 at hf
    refine lv_aload_n hx hb dX7_put_122 rfl (lv_at hl 0 rfl) ?_
    refine z_get (c0 := 7) (i0 := o) (k0 := 3) (T := TX7) (v := .ref (ad 7 o 4)) S hG h_o rfl inlX7 (by decide) rfl zw_793 rfl dX7_put_123 ?_
    refine lv_iload_n hx hb dX7_put_126 rfl (lv_at hl 2 rfl) ?_
    refine lv_dup2_11 hx hb dX7_put_127 rfl rfl ?_
    obtain ⟨i12, hi12, hf⟩ := zbi hf
    refine z_iald (c0 := 7) (i0 := o) (k0 := 3) S hG h_o (by decide) rfl hi12 dX7_put_128 ?_
    refine lv_iconst (v := 1) hx hb dX7_put_129 (by decide) ?_
    refine lv_iadd hx hb dX7_put_130 ?_
    obtain ⟨i13, hi13, hf⟩ := zbi hf
    refine z_iast (c0 := 7) (i0 := o) (k0 := 3) S hG hS h_o (by decide) rfl hi13 dX7_put_131 (fun H locs hG hS => ?_)
    obtain ⟨σ14, eσ14, hf⟩ := zlt_s hf
    rw [← eσ14] at hG
    refine lv_aload_n hx hb dX7_put_132 rfl (lv_at hl 0 rfl) ?_
    refine z_get (c0 := 7) (i0 := o) (k0 := 4) (T := TX7) (v := .ref (ad 7 o 5)) S hG h_o rfl inlX7 (by decide) rfl zw_794 rfl dX7_put_133 ?_
    refine lv_iload hx hb dX7_put_136 (lv_at hl 4 rfl) ?_
    refine lv_dup2_11 hx hb dX7_put_138 rfl rfl ?_
    obtain ⟨i15, hi15, hf⟩ := zbi hf
    refine z_iald (c0 := 7) (i0 := o) (k0 := 4) S hG h_o (by decide) rfl hi15 dX7_put_139 ?_
    refine lv_iload_n hx hb dX7_put_140 rfl (lv_at hl 2 rfl) ?_
    have Kv18 : ∀ (v18 : Int32) (ls : Array Slot), lv_has ls 7 [(0, .ref (ad 7 o 0)), (1, .int x1), (2, .int x2), (3, .int y3b122), (4, .int y4b122)] → ((zix y4b122 2).bind fun i33 => zlt (zsA σ14 7 o 4 i33 ((zA σ14 7 o 4 i15) + (v18 - (if y3b122 = 0 then 0 else 1 : Int32)))) fun σ34 => (zix x1 240).bind fun i35 => zlt (zsA σ34 7 o 2 i35 x2) fun σ36 => some σ36) = some σ' → zWk p l e ({ frames := 1, cells := 0, slots := 0, locals := 21 } : Room) s m args below meth c A none (fun t => zG D aC A nl ad σ' t t.heap ∧ True) H locs (F0 m 149 ls [.int v18, .int (zA σ14 7 o 4 i15), .int y4b122, .ref (ad 7 o 5)]) := by
      intro v18 ls hl hf
      refine lv_iload_n hx hb dX7_put_149 rfl (lv_at hl 3 rfl) ?_
      have Kv32 : ∀ (v32 : Int32) (ls : Array Slot), lv_has ls 7 [(0, .ref (ad 7 o 0)), (1, .int x1), (2, .int x2), (3, .int y3b122), (4, .int y4b122)] → ((zix y4b122 2).bind fun i37 => zlt (zsA σ14 7 o 4 i37 ((zA σ14 7 o 4 i15) + (v18 - v32))) fun σ38 => (zix x1 240).bind fun i39 => zlt (zsA σ38 7 o 2 i39 x2) fun σ40 => some σ40) = some σ' → zWk p l e ({ frames := 1, cells := 0, slots := 0, locals := 21 } : Room) s m args below meth c A none (fun t => zG D aC A nl ad σ' t t.heap ∧ True) H locs (F0 m 158 ls [.int v32, .int v18, .int (zA σ14 7 o 4 i15), .int y4b122, .ref (ad 7 o 5)]) := by
        intro v32 ls hl hf
        refine lv_isub hx hb dX7_put_158 ?_
        refine lv_iadd hx hb dX7_put_159 ?_
        obtain ⟨i37, hi37, hf⟩ := zbi hf
        refine z_iast (c0 := 7) (i0 := o) (k0 := 4) S hG hS h_o (by decide) rfl hi37 dX7_put_160 (fun H locs hG hS => ?_)
        obtain ⟨σ38, eσ38, hf⟩ := zlt_s hf
        rw [← eσ38] at hG
        refine lv_aload_n hx hb dX7_put_161 rfl (lv_at hl 0 rfl) ?_
        refine z_get (c0 := 7) (i0 := o) (k0 := 2) (T := TX7) (v := .ref (ad 7 o 3)) S hG h_o rfl inlX7 (by decide) rfl zw_792 rfl dX7_put_162 ?_
        refine lv_iload_n hx hb dX7_put_165 rfl (lv_at hl 1 rfl) ?_
        refine lv_iload_n hx hb dX7_put_166 rfl (lv_at hl 2 rfl) ?_
        obtain ⟨i39, hi39, hf⟩ := zbi hf
        refine z_iast (c0 := 7) (i0 := o) (k0 := 2) S hG hS h_o (by decide) rfl hi39 dX7_put_167 (fun H locs hG hS => ?_)
        obtain ⟨σ40, eσ40, hf⟩ := zlt_s hf
        rw [← eσ40] at hG
        have hq := (Option.some.inj hf)
        subst hq
        exact z_vret S hG hS hlocks trivial hr dX7_put_168
      refine lv_if_eq (tgt := 157) hx hb dX7_put_150 (by decide) (fun c31 => ?_) (fun c31 => ?_)
      · rw [if_pos c31] at hf
        refine lv_iconst (v := 0) hx hb dX7_put_157 (by decide) ?_
        exact Kv32 _ ls hl hf
      · rw [if_neg c31] at hf
        refine lv_iconst (v := 1) hx hb dX7_put_153 (by decide) ?_
        refine lv_goto (tgt := 158) hx hb dX7_put_154 (by decide) ?_
        exact Kv32 _ ls hl hf
    refine lv_if_eq (tgt := 148) hx hb dX7_put_141 (by decide) (fun c17 => ?_) (fun c17 => ?_)
    · rw [if_pos c17] at hf
      refine lv_iconst (v := 0) hx hb dX7_put_148 (by decide) ?_
      exact Kv18 _ ls hl hf
    · rw [if_neg c17] at hf
      refine lv_iconst (v := 1) hx hb dX7_put_144 (by decide) ?_
      refine lv_goto (tgt := 149) hx hb dX7_put_145 (by decide) ?_
      exact Kv18 _ ls hl hf
  have KJ105 : ∀ (y3b105 : Int32) (y4b105 : Int32)  (σb105 : zM) (H : Heap) (locs : List Loc) (ls : Array Slot), zG D aC A nl ad σb105 s H → va_S A s.heap H locs → lv_has ls 7 [(0, .ref (ad 7 o 0)), (1, .int x1), (2, .int x2), (3, .int y3b105), (4, .int y4b105)] → (f_X7_put_B105 σb105 o x1 x2 y3b105 y4b105) = some σ' → zWk p l e ({ frames := 1, cells := 0, slots := 0, locals := 21 } : Room) s m args below meth c A none (fun t => zG D aC A nl ad σ' t t.heap ∧ True) H locs (F0 m 105 ls []) := by
    intro y3b105 y4b105  σb105 H locs ls hG hS hl hf
    unfold f_X7_put_B105 at hf
    refine lv_iload_n hx hb dX7_put_105 rfl (lv_at hl 3 rfl) ?_
    refine z_callS (n := 1) (rest := []) (st1 := [.int (f_X7_isThing y3b105)]) S hG hS hZ (fun _ _ h => h) (c_X7_isThing l D aC zs A nl ad σb105 y3b105 (f_X7_isThing y3b105) rfl) zw_828 zw_815 zw_783 zw_816 (by decide +kernel) ⟨rfl, rfl⟩ ⟨(Nat.le_of_ble_eq_true rfl), (Nat.le_of_ble_eq_true rfl)⟩ hl.1 rfl (by rfl) (by rfl) (Nat.le_of_ble_eq_true rfl) dX7_put_106 ⟨Nat.zero_le _, Nat.zero_le _⟩ (fun H locs hz10 hG hS => ?_)
    refine lv_if_eq (tgt := 122) hx hb dX7_put_109 (by decide) (fun c11 => ?_) (fun c11 => ?_)
    · have hf := zif_p c11 hf
      exact KJ122 y3b105 y4b105 σb105 H locs ls hG hS (lv_sub hl [0, 1, 2, 3, 4] rfl) hf
    · have hf := zif_n c11 hf
      refine lv_aload_n hx hb dX7_put_112 rfl (lv_at hl 0 rfl) ?_
      refine z_get (c0 := 7) (i0 := o) (k0 := 3) (T := TX7) (v := .ref (ad 7 o 4)) S hG h_o rfl inlX7 (by decide) rfl zw_793 rfl dX7_put_113 ?_
      refine lv_iload_n hx hb dX7_put_116 rfl (lv_at hl 3 rfl) ?_
      refine lv_dup2_11 hx hb dX7_put_117 rfl rfl ?_
      obtain ⟨i41, hi41, hf⟩ := zbi hf
      refine z_iald (c0 := 7) (i0 := o) (k0 := 3) S hG h_o (by decide) rfl hi41 dX7_put_118 ?_
      refine lv_iconst (v := 1) hx hb dX7_put_119 (by decide) ?_
      refine lv_isub hx hb dX7_put_120 ?_
      obtain ⟨i42, hi42, hf⟩ := zbi hf
      refine z_iast (c0 := 7) (i0 := o) (k0 := 3) S hG hS h_o (by decide) rfl hi42 dX7_put_121 (fun H locs hG hS => ?_)
      obtain ⟨σ43, eσ43, hf⟩ := zlt_s hf
      rw [← eσ43] at hG
      exact KJ122 y3b105 y4b105 σ43 H locs ls hG hS (lv_sub hl [0, 1, 2, 3, 4] rfl) hf
  have hK0 : ∀ (H : Heap) (locs : List Loc) (ls : Array Slot), zG D aC A nl ad σ s H → va_S A s.heap H locs → lv_has ls 7 [(0, .ref (ad 7 o 0)), (1, .int x1), (2, .int x2)] → f_X7_put σ o x1 x2 = some σ' → zWk p l e ({ frames := 1, cells := 0, slots := 0, locals := 21 } : Room) s m args below meth c A none (fun t => zG D aC A nl ad σ' t t.heap ∧ True) H locs (F0 m 0 ls []) := by
    intro H locs ls hG hS hl hf
    unfold f_X7_put at hf
    refine lv_iload_n hx hb dX7_put_0 rfl (lv_at hl 1 rfl) ?_
    refine lv_bipush (v := 13) hx hb dX7_put_1 (by decide) ?_
    refine lv_icmp_lt (tgt := 20) hx hb dX7_put_3 (by decide) (fun c1 => ?_) (fun c1 => ?_)
    · have hf := zif_p c1 hf
      have hq := (Option.some.inj hf)
      subst hq
      exact z_vret S hG hS hlocks trivial hr dX7_put_20
    · have hf := zif_n c1 hf
      refine lv_iload_n hx hb dX7_put_6 rfl (lv_at hl 1 rfl) ?_
      refine lv_sipush (v := 227) hx hb dX7_put_7 (by decide) ?_
      refine lv_icmp_ge (tgt := 20) hx hb dX7_put_10 (by decide) (fun c2 => ?_) (fun c2 => ?_)
      · have hf := zif_p c2 hf
        have hq := (Option.some.inj hf)
        subst hq
        exact z_vret S hG hS hlocks trivial hr dX7_put_20
      · have hf := zif_n c2 hf
        refine lv_iload_n hx hb dX7_put_13 rfl (lv_at hl 2 rfl) ?_
        refine z_callS (n := 1) (rest := []) (st1 := [.int (f_X7_isThing x2)]) S hG hS hZ (fun _ _ h => h) (c_X7_isThing l D aC zs A nl ad σ x2 (f_X7_isThing x2) rfl) zw_828 zw_815 zw_783 zw_816 (by decide +kernel) ⟨rfl, rfl⟩ ⟨(Nat.le_of_ble_eq_true rfl), (Nat.le_of_ble_eq_true rfl)⟩ hl.1 rfl (by rfl) (by rfl) (Nat.le_of_ble_eq_true rfl) dX7_put_14 ⟨Nat.zero_le _, Nat.zero_le _⟩ (fun H locs hz3 hG hS => ?_)
        refine lv_if_ne (tgt := 21) hx hb dX7_put_17 (by decide) (fun c4 => ?_) (fun c4 => ?_)
        · have hf := zif_n c4 hf
          refine lv_aload_n hx hb dX7_put_21 rfl (lv_at hl 0 rfl) ?_
          refine z_get (c0 := 7) (i0 := o) (k0 := 2) (T := TX7) (v := .ref (ad 7 o 3)) S hG h_o rfl inlX7 (by decide) rfl zw_792 rfl dX7_put_22 ?_
          refine lv_iload_n hx hb dX7_put_25 rfl (lv_at hl 1 rfl) ?_
          obtain ⟨i5, hi5, hf⟩ := zbi hf
          refine z_iald (c0 := 7) (i0 := o) (k0 := 2) S hG h_o (by decide) rfl hi5 dX7_put_26 ?_
          refine lv_istore_n (lv' := [(3, .int (zA σ 7 o 2 i5)), (0, .ref (ad 7 o 0)), (1, .int x1), (2, .int x2)]) hx hb dX7_put_27 rfl hl (by decide) rfl (fun ls hl => ?_)
          refine lv_iload_n hx hb dX7_put_28 rfl (lv_at hl 2 rfl) ?_
          refine lv_bipush (v := 120) hx hb dX7_put_29 (by decide) ?_
          have Kv8 : ∀ (v8 : Int32) (ls : Array Slot), lv_has ls 7 [(3, .int (zA σ 7 o 2 i5)), (0, .ref (ad 7 o 0)), (1, .int x1), (2, .int x2)] → ((zwh (fun (q : (Int32 × zM)) => f_X7_put_L44 o x1 x2 (zA σ 7 o 2 i5) v8 q.1 q.2) zFu (0, σ)).bind fun q => f_X7_put_B105 q o x1 x2 (zA σ 7 o 2 i5) v8) = some σ' → zWk p l e ({ frames := 1, cells := 0, slots := 0, locals := 21 } : Room) s m args below meth c A none (fun t => zG D aC A nl ad σ' t t.heap ∧ True) H locs (F0 m 39 ls [.int v8]) := by
            intro v8 ls hl hf
            refine lv_istore (lv' := [(4, .int v8), (3, .int (zA σ 7 o 2 i5)), (0, .ref (ad 7 o 0)), (1, .int x1), (2, .int x2)]) hx hb dX7_put_39 hl (by decide) rfl (fun ls hl => ?_)
            refine lv_iconst (v := 0) hx hb dX7_put_41 (by decide) ?_
            refine lv_istore (lv' := [(5, .int 0), (4, .int v8), (3, .int (zA σ 7 o 2 i5)), (0, .ref (ad 7 o 0)), (1, .int x1), (2, .int x2)]) hx hb dX7_put_42 hl (by decide) rfl (fun ls hl => ?_)
            obtain ⟨t44, hw44, hfo44⟩ := zbi hf
            have KL44 : ∀ (n : Nat) (y5l44 : Int32) (σl44 : zM) (H : Heap) (locs : List Loc) (ls : Array Slot), zG D aC A nl ad σl44 s H → va_S A s.heap H locs → lv_has ls 7 [(0, .ref (ad 7 o 0)), (1, .int x1), (2, .int x2), (3, .int (zA σ 7 o 2 i5)), (4, .int v8), (5, .int y5l44)] → zwh (fun (q : (Int32 × zM)) => f_X7_put_L44 o x1 x2 (zA σ 7 o 2 i5) v8 q.1 q.2) n (y5l44, σl44) = some t44 → zWk p l e ({ frames := 1, cells := 0, slots := 0, locals := 21 } : Room) s m args below meth c A none (fun t => zG D aC A nl ad σ' t t.heap ∧ True) H locs (F0 m 44 ls []) := by
              intro n
              induction n with
              | zero =>
                intro y5l44 σl44 H locs ls hG hS hl hw
                exact (zwh_0 hw).elim
              | succ n ih44 =>
                intro y5l44 σl44 H locs ls hG hS hl hw
                obtain ⟨rr44, hf, hk44⟩ := zwh_u hw
                have hf : f_X7_put_L44 o x1 x2 (zA σ 7 o 2 i5) v8 y5l44 σl44 = some rr44 := hf
                unfold f_X7_put_L44 at hf
                refine lv_iload hx hb dX7_put_44 (lv_at hl 5 rfl) ?_
                refine z_gets (v := .ref zs.2) S hZ.2.2.2.2.1 hS zw_827 dX7_put_46 ?_
                refine z_tlen (v := 4) S hZ.2.2.2.2.2.1 hS rfl dX7_put_49 ?_
                refine lv_icmp_ge (tgt := 105) hx hb dX7_put_50 (by decide) (fun c94 => ?_) (fun c94 => ?_)
                · have hf := zif_p c94 hf
                  cases hf
                  have hk44 : (σl44 : zM) = t44 := hk44
                  have hf := hfo44
                  rw [← hk44] at hf
                  have hf : (f_X7_put_B105 σl44 o x1 x2 (zA σ 7 o 2 i5) v8) = some σ' := hf
                  exact KJ105 (zA σ 7 o 2 i5) v8 σl44 H locs ls hG hS (lv_sub hl [0, 1, 2, 3, 4] rfl) hf
                · have hf := zif_n c94 hf
                  refine lv_aload_n hx hb dX7_put_53 rfl (lv_at hl 0 rfl) ?_
                  refine lv_iload_n hx hb dX7_put_54 rfl (lv_at hl 1 rfl) ?_
                  refine z_gets (v := .ref zs.2) S hZ.2.2.2.2.1 hS zw_827 dX7_put_55 ?_
                  refine lv_iload hx hb dX7_put_58 (lv_at hl 5 rfl) ?_
                  obtain ⟨i95, hi95, hf⟩ := zbi hf
                  refine z_ti S hZ.2.2.2.2.2.1 hS hi95 dX7_put_60 ?_
                  refine lv_iadd hx hb dX7_put_61 ?_
                  obtain ⟨r96, er96, hf⟩ := zbi hf
                  refine z_callV (n := 1) (rest := []) (st1 := [.int r96]) (c0 := 7) (i0 := o) h_o (by rfl) S hG hS hZ (fun _ _ h => h) (c_X7_thingAt l D aC zs A nl ad σl44 o (x1 + (zBES i95)) r96 h_o er96) zw_829 zw_830 zw_831 zw_783 zw_832 (by decide +kernel) ⟨rfl, rfl⟩ ⟨(Nat.le_of_ble_eq_true rfl), (Nat.le_of_ble_eq_true rfl)⟩ hl.1 rfl (by rfl) (by rfl) (Nat.le_of_ble_eq_true rfl) dX7_put_62 ⟨Nat.zero_le _, Nat.zero_le _⟩ (fun H locs hz97 hG hS => ?_)
                  refine lv_istore (lv' := [(6, .int r96), (0, .ref (ad 7 o 0)), (1, .int x1), (2, .int x2), (3, .int (zA σ 7 o 2 i5)), (4, .int v8), (5, .int y5l44)]) hx hb dX7_put_65 hl (by decide) rfl (fun ls hl => ?_)
                  refine lv_aload_n hx hb dX7_put_67 rfl (lv_at hl 1 rfl) ?_
                  refine lv_dup hx hb dX7_put_68 rfl ?_
                  refine z_get (c0 := 7) (i0 := o) (k0 := 5) (T := TX7) (v := .int (zI σl44 7 o 5)) S hG h_o rfl inlX7 (by decide) rfl zw_795 rfl dX7_put_69 ?_
                  refine lv_iload_n hx hb dX7_put_72 rfl (lv_at hl 3 rfl) ?_
                  refine lv_iload hx hb dX7_put_73 (lv_at hl 0 rfl) ?_
                  have Kv100 : ∀ (v100 : Int32) (ls : Array Slot), lv_has ls 7 [(6, .int r96), (0, .ref (ad 7 o 0)), (1, .int x1), (2, .int x2), (3, .int (zA σ 7 o 2 i5)), (4, .int v8), (5, .int y5l44)] → (zlt (zsI σl44 7 o 5 ((zI σl44 7 o 5) + (v100 - (if (zA σ 7 o 2 i5) = r96 then 0 else 1 : Int32)))) fun σ109 => some (.inl ((y5l44 + 1), σ109))) = some rr44 → zWk p l e ({ frames := 1, cells := 0, slots := 0, locals := 21 } : Room) s m args below meth c A none (fun t => zG D aC A nl ad σ' t t.heap ∧ True) H locs (F0 m 83 ls [.int v100, .int (zI σl44 7 o 5), .ref (ad 7 o 0)]) := by
                    intro v100 ls hl hf
                    refine lv_iload_n hx hb dX7_put_83 rfl (lv_at hl 4 rfl) ?_
                    refine lv_iload hx hb dX7_put_84 (lv_at hl 0 rfl) ?_
                    have Kv108 : ∀ (v108 : Int32) (ls : Array Slot), lv_has ls 7 [(6, .int r96), (0, .ref (ad 7 o 0)), (1, .int x1), (2, .int x2), (3, .int (zA σ 7 o 2 i5)), (4, .int v8), (5, .int y5l44)] → (zlt (zsI σl44 7 o 5 ((zI σl44 7 o 5) + (v100 - v108))) fun σ110 => some (.inl ((y5l44 + 1), σ110))) = some rr44 → zWk p l e ({ frames := 1, cells := 0, slots := 0, locals := 21 } : Room) s m args below meth c A none (fun t => zG D aC A nl ad σ' t t.heap ∧ True) H locs (F0 m 94 ls [.int v108, .int v100, .int (zI σl44 7 o 5), .ref (ad 7 o 0)]) := by
                      intro v108 ls hl hf
                      refine lv_isub hx hb dX7_put_94 ?_
                      refine lv_iadd hx hb dX7_put_95 ?_
                      refine z_putI (c0 := 7) (i0 := o) (k0 := 5) (T := TX7) S hG hS tyX7 tyX7_ok nmX7 h_o rfl inlX7 (by decide) rfl rfl zw_795 (by decide +kernel) rfl dX7_put_96 (fun H locs hG hS => ?_)
                      obtain ⟨σ110, eσ110, hf⟩ := zlt_s hf
                      rw [← eσ110] at hG
                      refine lv_iinc (v := (y5l44 + 1)) (lv' := [(5, .int (y5l44 + 1)), (6, .int r96), (0, .ref (ad 7 o 0)), (1, .int x1), (2, .int x2), (3, .int (zA σ 7 o 2 i5)), (4, .int v8)]) hx hb dX7_put_99 hl (k := 6) rfl rfl (by decide) rfl (fun ls hl => ?_)
                      refine lv_goto (tgt := 44) hx hb dX7_put_102 (by decide) ?_
                      cases hf
                      exact ih44 (y5l44 + 1) σ110 H locs ls hG hS (lv_sub hl [2, 3, 4, 5, 6, 0] rfl) hk44
                    refine lv_icmp_eq (tgt := 93) hx hb dX7_put_86 (by decide) (fun c107 => ?_) (fun c107 => ?_)
                    · rw [if_pos c107] at hf
                      refine lv_iconst (v := 0) hx hb dX7_put_93 (by decide) ?_
                      exact Kv108 _ ls hl hf
                    · rw [if_neg c107] at hf
                      refine lv_iconst (v := 1) hx hb dX7_put_89 (by decide) ?_
                      refine lv_goto (tgt := 94) hx hb dX7_put_90 (by decide) ?_
                      exact Kv108 _ ls hl hf
                  refine lv_icmp_eq (tgt := 82) hx hb dX7_put_75 (by decide) (fun c99 => ?_) (fun c99 => ?_)
                  · rw [if_pos c99] at hf
                    refine lv_iconst (v := 0) hx hb dX7_put_82 (by decide) ?_
                    exact Kv100 _ ls hl hf
                  · rw [if_neg c99] at hf
                    refine lv_iconst (v := 1) hx hb dX7_put_78 (by decide) ?_
                    refine lv_goto (tgt := 83) hx hb dX7_put_79 (by decide) ?_
                    exact Kv100 _ ls hl hf
            exact KL44 zFu 0 σ H locs ls hG hS (lv_sub hl [3, 4, 5, 2, 1, 0] rfl) hw44
          refine lv_icmp_ge (tgt := 38) hx hb dX7_put_31 (by decide) (fun c7 => ?_) (fun c7 => ?_)
          · rw [if_pos c7] at hf
            refine lv_iconst (v := 1) hx hb dX7_put_38 (by decide) ?_
            exact Kv8 _ ls hl hf
          · rw [if_neg c7] at hf
            refine lv_iconst (v := 0) hx hb dX7_put_34 (by decide) ?_
            refine lv_goto (tgt := 39) hx hb dX7_put_35 (by decide) ?_
            exact Kv8 _ ls hl hf
        · have hf := zif_p c4 hf
          have hq := (Option.some.inj hf)
          subst hq
          exact z_vret S hG hS hlocks trivial hr dX7_put_20
  exact hK0 _ _ ls hG hS hl hf
set_option maxRecDepth 100000 in
set_option maxHeartbeats 4000000 in
theorem c_X7_costBy (l : Launch) (D : va_G) (aC : Nat → ClassId) (zs : Nat × Nat) (A : Nat → Prop) (nl : zNL) (ad : Nat → Nat → Nat → Nat) (σ : zM) (o : Nat) (x1 : Nat) (r : Int32) (h_o : zin nl 7 o) (h_x1 : zin nl 0 x1) (hf : f_X7_costBy σ o x1 = some r) : Met l yX7_costBy (Cond.code yX7_costBy cX7_costBy 4 (some .int) :: wsL_law) ({ frames := 1, cells := 0, slots := 0, locals := 21 } : Room) (zP D aC zs zfX A nl ad σ [.ref (ad 7 o 0), .ref (ad 0 x1 0)]) (zQ (some (.int r)) (fun t => zG D aC A nl ad σ t t.heap ∧ True) A) 0 0 A := by
  refine Met.ofW (cc := cX7_costBy) (maxL := 4) (ret := (some .int)) (by decide) rfl ?_
  intro p e s m args below meth c s₁ B hml hv
  obtain ⟨rfl, hG, hZ⟩ := hv
  have hx := B.exec
  have hb := B.bytes
  have hr := B.returns
  have hts : ∀ w ∈ wsL_law, w.before ([.ref (ad 7 o 0), .ref (ad 0 x1 0)] : List Value).toArray s = true := fun w h => (atoms_spec B.pre) w (List.mem_cons_of_mem _ h)
  have hown : s.vm.findClass RX7 = some m.cls := findClass_of_methodNamed B.named
  have hlocks := B.notSynchronized
  have S : zS p m c cX7_costBy 4 s ([.ref (ad 7 o 0), .ref (ad 0 x1 0)] : List Value).toArray RX7 := ⟨hx, hb, hml, hown, hts⟩
  have hS : va_S A s.heap s.heap [] := va_S.rf
  have hl := lv_entry ([.ref (ad 7 o 0), .ref (ad 0 x1 0)]) (n := 4) (Nat.le_of_ble_eq_true rfl)
  rw [lg_entry_eq]
  generalize (lg_sl ([.ref (ad 7 o 0), .ref (ad 0 x1 0)]) ++ List.replicate (4 - (lg_sl ([.ref (ad 7 o 0), .ref (ad 0 x1 0)])).length) Slot.unset).toArray = ls at hl ⊢
  have hl : lv_has ls 4 [(0, .ref (ad 7 o 0)), (1, .ref (ad 0 x1 0))] := hl
  generalize hargs : ([.ref (ad 7 o 0), .ref (ad 0 x1 0)] : List Value).toArray = args at S hts ⊢
  clear hargs
  have hK0 : ∀ (H : Heap) (locs : List Loc) (ls : Array Slot), zG D aC A nl ad σ s H → va_S A s.heap H locs → lv_has ls 4 [(0, .ref (ad 7 o 0)), (1, .ref (ad 0 x1 0))] → f_X7_costBy σ o x1 = some r → zWk p l e ({ frames := 1, cells := 0, slots := 0, locals := 21 } : Room) s m args below meth c A (some (.int r)) (fun t => zG D aC A nl ad σ t t.heap ∧ True) H locs (F0 m 0 ls []) := by
    intro H locs ls hG hS hl hf
    unfold f_X7_costBy at hf
    refine lv_aload_n hx hb dX7_costBy_0 rfl (lv_at hl 0 rfl) ?_
    refine z_get (c0 := 7) (i0 := o) (k0 := 5) (T := TX7) (v := .int (zI σ 7 o 5)) S hG h_o rfl inlX7 (by decide) rfl zw_795 rfl dX7_costBy_1 ?_
    refine lv_aload_n hx hb dX7_costBy_4 rfl (lv_at hl 1 rfl) ?_
    refine lv_iconst (v := 0) hx hb dX7_costBy_5 (by decide) ?_
    obtain ⟨r1, er1, hf⟩ := zbi hf
    refine z_callV (n := 1) (rest := [.int (zI σ 7 o 5)]) (st1 := [.int r1, .int (zI σ 7 o 5)]) (c0 := 0) (i0 := x1) h_x1 (by rfl) S hG hS hZ (fun _ _ h => h) (c_X0_term l D aC zs A nl ad σ x1 0 r1 h_x1 er1) zw_954 zw_703 zw_704 zw_76 zw_705 (by decide +kernel) ⟨rfl, rfl⟩ ⟨(Nat.le_of_ble_eq_true rfl), (Nat.le_of_ble_eq_true rfl)⟩ hl.1 rfl (by rfl) (by rfl) (Nat.le_of_ble_eq_true rfl) dX7_costBy_6 ⟨Nat.zero_le _, Nat.zero_le _⟩ (fun H locs hz2 hG hS => ?_)
    refine lv_imul hx hb dX7_costBy_9 ?_
    refine lv_aload_n hx hb dX7_costBy_10 rfl (lv_at hl 0 rfl) ?_
    refine lv_bipush (v := 13) hx hb dX7_costBy_11 (by decide) ?_
    obtain ⟨r3, er3, hf⟩ := zbi hf
    refine z_callV (n := 1) (rest := [.int ((zI σ 7 o 5) * r1)]) (st1 := [.int r3, .int ((zI σ 7 o 5) * r1)]) (c0 := 7) (i0 := o) h_o (by rfl) S hG hS hZ (fun _ _ h => h) (c_X7_countOf l D aC zs A nl ad σ o 13 r3 h_o er3) zw_955 zw_873 zw_874 zw_783 zw_875 (by decide +kernel) ⟨rfl, rfl⟩ ⟨(Nat.le_of_ble_eq_true rfl), (Nat.le_of_ble_eq_true rfl)⟩ hl.1 rfl (by rfl) (by rfl) (Nat.le_of_ble_eq_true rfl) dX7_costBy_13 ⟨Nat.zero_le _, Nat.zero_le _⟩ (fun H locs hz4 hG hS => ?_)
    refine lv_aload_n hx hb dX7_costBy_16 rfl (lv_at hl 1 rfl) ?_
    refine lv_iconst (v := 1) hx hb dX7_costBy_17 (by decide) ?_
    obtain ⟨r5, er5, hf⟩ := zbi hf
    refine z_callV (n := 1) (rest := [.int r3, .int ((zI σ 7 o 5) * r1)]) (st1 := [.int r5, .int r3, .int ((zI σ 7 o 5) * r1)]) (c0 := 0) (i0 := x1) h_x1 (by rfl) S hG hS hZ (fun _ _ h => h) (c_X0_term l D aC zs A nl ad σ x1 1 r5 h_x1 er5) zw_954 zw_703 zw_704 zw_76 zw_705 (by decide +kernel) ⟨rfl, rfl⟩ ⟨(Nat.le_of_ble_eq_true rfl), (Nat.le_of_ble_eq_true rfl)⟩ hl.1 rfl (by rfl) (by rfl) (Nat.le_of_ble_eq_true rfl) dX7_costBy_18 ⟨Nat.zero_le _, Nat.zero_le _⟩ (fun H locs hz6 hG hS => ?_)
    refine lv_imul hx hb dX7_costBy_21 ?_
    refine lv_iadd hx hb dX7_costBy_22 ?_
    refine lv_aload_n hx hb dX7_costBy_23 rfl (lv_at hl 0 rfl) ?_
    refine lv_bipush (v := 14) hx hb dX7_costBy_24 (by decide) ?_
    obtain ⟨r7, er7, hf⟩ := zbi hf
    refine z_callV (n := 1) (rest := [.int (((zI σ 7 o 5) * r1) + (r3 * r5))]) (st1 := [.int r7, .int (((zI σ 7 o 5) * r1) + (r3 * r5))]) (c0 := 7) (i0 := o) h_o (by rfl) S hG hS hZ (fun _ _ h => h) (c_X7_countOf l D aC zs A nl ad σ o 14 r7 h_o er7) zw_955 zw_873 zw_874 zw_783 zw_875 (by decide +kernel) ⟨rfl, rfl⟩ ⟨(Nat.le_of_ble_eq_true rfl), (Nat.le_of_ble_eq_true rfl)⟩ hl.1 rfl (by rfl) (by rfl) (Nat.le_of_ble_eq_true rfl) dX7_costBy_26 ⟨Nat.zero_le _, Nat.zero_le _⟩ (fun H locs hz8 hG hS => ?_)
    refine lv_aload_n hx hb dX7_costBy_29 rfl (lv_at hl 1 rfl) ?_
    refine lv_iconst (v := 2) hx hb dX7_costBy_30 (by decide) ?_
    obtain ⟨r9, er9, hf⟩ := zbi hf
    refine z_callV (n := 1) (rest := [.int r7, .int (((zI σ 7 o 5) * r1) + (r3 * r5))]) (st1 := [.int r9, .int r7, .int (((zI σ 7 o 5) * r1) + (r3 * r5))]) (c0 := 0) (i0 := x1) h_x1 (by rfl) S hG hS hZ (fun _ _ h => h) (c_X0_term l D aC zs A nl ad σ x1 2 r9 h_x1 er9) zw_954 zw_703 zw_704 zw_76 zw_705 (by decide +kernel) ⟨rfl, rfl⟩ ⟨(Nat.le_of_ble_eq_true rfl), (Nat.le_of_ble_eq_true rfl)⟩ hl.1 rfl (by rfl) (by rfl) (Nat.le_of_ble_eq_true rfl) dX7_costBy_31 ⟨Nat.zero_le _, Nat.zero_le _⟩ (fun H locs hz10 hG hS => ?_)
    refine lv_imul hx hb dX7_costBy_34 ?_
    refine lv_iadd hx hb dX7_costBy_35 ?_
    refine lv_istore_n (lv' := [(2, .int ((((zI σ 7 o 5) * r1) + (r3 * r5)) + (r7 * r9))), (0, .ref (ad 7 o 0)), (1, .ref (ad 0 x1 0))]) hx hb dX7_costBy_36 rfl hl (by decide) rfl (fun ls hl => ?_)
    refine lv_iconst (v := 1) hx hb dX7_costBy_37 (by decide) ?_
    refine lv_istore_n (lv' := [(3, .int 1), (2, .int ((((zI σ 7 o 5) * r1) + (r3 * r5)) + (r7 * r9))), (0, .ref (ad 7 o 0)), (1, .ref (ad 0 x1 0))]) hx hb dX7_costBy_38 rfl hl (by decide) rfl (fun ls hl => ?_)
    obtain ⟨t39, hw39, hfo39⟩ := zbi hf
    have KL39 : ∀ (n : Nat) (y2l39 : Int32) (y3l39 : Int32) (H : Heap) (locs : List Loc) (ls : Array Slot), zG D aC A nl ad σ s H → va_S A s.heap H locs → lv_has ls 4 [(0, .ref (ad 7 o 0)), (1, .ref (ad 0 x1 0)), (2, .int y2l39), (3, .int y3l39)] → zwh (fun (q : (Int32 × Int32)) => f_X7_costBy_L39 σ o x1 q.1 q.2) n (y2l39, y3l39) = some t39 → zWk p l e ({ frames := 1, cells := 0, slots := 0, locals := 21 } : Room) s m args below meth c A (some (.int r)) (fun t => zG D aC A nl ad σ t t.heap ∧ True) H locs (F0 m 39 ls []) := by
      intro n
      induction n with
      | zero =>
        intro y2l39 y3l39 H locs ls hG hS hl hw
        exact (zwh_0 hw).elim
      | succ n ih39 =>
        intro y2l39 y3l39 H locs ls hG hS hl hw
        obtain ⟨rr39, hf, hk39⟩ := zwh_u hw
        have hf : f_X7_costBy_L39 σ o x1 y2l39 y3l39 = some rr39 := hf
        unfold f_X7_costBy_L39 at hf
        refine lv_iload_n hx hb dX7_costBy_39 rfl (lv_at hl 3 rfl) ?_
        refine lv_bipush (v := 12) hx hb dX7_costBy_40 (by decide) ?_
        refine lv_icmp_gt (tgt := 65) hx hb dX7_costBy_42 (by decide) (fun c16 => ?_) (fun c16 => ?_)
        · have hf := zif_p c16 hf
          cases hf
          have hk39 : (y2l39 : Int32) = t39 := hk39
          have hf := hfo39
          rw [← hk39] at hf
          have hf : (some y2l39) = some r := hf
          refine lv_iload_n hx hb dX7_costBy_65 rfl (lv_at hl 2 rfl) ?_
          have hq := (Option.some.inj hf)
          subst hq
          exact z_iret S hG hS hlocks trivial hr dX7_costBy_66
        · have hf := zif_n c16 hf
          refine lv_iload_n hx hb dX7_costBy_45 rfl (lv_at hl 2 rfl) ?_
          refine lv_aload_n hx hb dX7_costBy_46 rfl (lv_at hl 0 rfl) ?_
          refine lv_iload_n hx hb dX7_costBy_47 rfl (lv_at hl 3 rfl) ?_
          obtain ⟨r17, er17, hf⟩ := zbi hf
          refine z_callV (n := 1) (rest := [.int y2l39]) (st1 := [.int r17, .int y2l39]) (c0 := 7) (i0 := o) h_o (by rfl) S hG hS hZ (fun _ _ h => h) (c_X7_countOf l D aC zs A nl ad σ o y3l39 r17 h_o er17) zw_955 zw_873 zw_874 zw_783 zw_875 (by decide +kernel) ⟨rfl, rfl⟩ ⟨(Nat.le_of_ble_eq_true rfl), (Nat.le_of_ble_eq_true rfl)⟩ hl.1 rfl (by rfl) (by rfl) (Nat.le_of_ble_eq_true rfl) dX7_costBy_48 ⟨Nat.zero_le _, Nat.zero_le _⟩ (fun H locs hz18 hG hS => ?_)
          refine lv_aload_n hx hb dX7_costBy_51 rfl (lv_at hl 1 rfl) ?_
          refine lv_iload_n hx hb dX7_costBy_52 rfl (lv_at hl 3 rfl) ?_
          obtain ⟨r19, er19, hf⟩ := zbi hf
          refine z_callV (n := 1) (rest := [.int r17, .int y2l39]) (st1 := [.int r19, .int r17, .int y2l39]) (c0 := 0) (i0 := x1) h_x1 (by rfl) S hG hS hZ (fun _ _ h => h) (c_X0_rate l D aC zs A nl ad σ x1 y3l39 r19 h_x1 er19) zw_956 zw_716 zw_717 zw_76 zw_718 (by decide +kernel) ⟨rfl, rfl⟩ ⟨(Nat.le_of_ble_eq_true rfl), (Nat.le_of_ble_eq_true rfl)⟩ hl.1 rfl (by rfl) (by rfl) (Nat.le_of_ble_eq_true rfl) dX7_costBy_53 ⟨Nat.zero_le _, Nat.zero_le _⟩ (fun H locs hz20 hG hS => ?_)
          refine lv_imul hx hb dX7_costBy_56 ?_
          refine lv_iadd hx hb dX7_costBy_57 ?_
          refine lv_istore_n (lv' := [(2, .int (y2l39 + (r17 * r19))), (0, .ref (ad 7 o 0)), (1, .ref (ad 0 x1 0)), (3, .int y3l39)]) hx hb dX7_costBy_58 rfl hl (by decide) rfl (fun ls hl => ?_)
          refine lv_iinc (v := (y3l39 + 1)) (lv' := [(3, .int (y3l39 + 1)), (2, .int (y2l39 + (r17 * r19))), (0, .ref (ad 7 o 0)), (1, .ref (ad 0 x1 0))]) hx hb dX7_costBy_59 hl (k := 3) rfl rfl (by decide) rfl (fun ls hl => ?_)
          refine lv_goto (tgt := 39) hx hb dX7_costBy_62 (by decide) ?_
          cases hf
          exact ih39 (y2l39 + (r17 * r19)) (y3l39 + 1) H locs ls hG hS (lv_sub hl [2, 3, 1, 0] rfl) hk39
    exact KL39 zFu ((((zI σ 7 o 5) * r1) + (r3 * r5)) + (r7 * r9)) 1 H locs ls hG hS (lv_sub hl [2, 3, 1, 0] rfl) hw39
  exact hK0 _ _ ls hG hS hl hf
set_option maxRecDepth 100000 in
set_option maxHeartbeats 4000000 in
theorem c_X7_alikeCellsTurned (l : Launch) (D : va_G) (aC : Nat → ClassId) (zs : Nat × Nat) (A : Nat → Prop) (nl : zNL) (ad : Nat → Nat → Nat → Nat) (σ : zM) (o : Nat) (x1 : Nat) (x2 : Int32) (x3 : Int32) (r : Int32) (h_o : zin nl 7 o) (h_x1 : zin nl 7 x1) (hf : f_X7_alikeCellsTurned σ o x1 x2 x3 = some r) : Met l yX7_alikeCellsTurned (Cond.code yX7_alikeCellsTurned cX7_alikeCellsTurned 10 (some .int) :: wsL_law) ({ frames := 1, cells := 0, slots := 0, locals := 22 } : Room) (zP D aC zs zfX A nl ad σ [.ref (ad 7 o 0), .ref (ad 7 x1 0), .int x2, .int x3]) (zQ (some (.int r)) (fun t => zG D aC A nl ad σ t t.heap ∧ True) A) 0 0 A := by
  refine Met.ofW (cc := cX7_alikeCellsTurned) (maxL := 10) (ret := (some .int)) (by decide) rfl ?_
  intro p e s m args below meth c s₁ B hml hv
  obtain ⟨rfl, hG, hZ⟩ := hv
  have hx := B.exec
  have hb := B.bytes
  have hr := B.returns
  have hts : ∀ w ∈ wsL_law, w.before ([.ref (ad 7 o 0), .ref (ad 7 x1 0), .int x2, .int x3] : List Value).toArray s = true := fun w h => (atoms_spec B.pre) w (List.mem_cons_of_mem _ h)
  have hown : s.vm.findClass RX7 = some m.cls := findClass_of_methodNamed B.named
  have hlocks := B.notSynchronized
  have S : zS p m c cX7_alikeCellsTurned 10 s ([.ref (ad 7 o 0), .ref (ad 7 x1 0), .int x2, .int x3] : List Value).toArray RX7 := ⟨hx, hb, hml, hown, hts⟩
  have hS : va_S A s.heap s.heap [] := va_S.rf
  have hl := lv_entry ([.ref (ad 7 o 0), .ref (ad 7 x1 0), .int x2, .int x3]) (n := 10) (Nat.le_of_ble_eq_true rfl)
  rw [lg_entry_eq]
  generalize (lg_sl ([.ref (ad 7 o 0), .ref (ad 7 x1 0), .int x2, .int x3]) ++ List.replicate (10 - (lg_sl ([.ref (ad 7 o 0), .ref (ad 7 x1 0), .int x2, .int x3])).length) Slot.unset).toArray = ls at hl ⊢
  have hl : lv_has ls 10 [(0, .ref (ad 7 o 0)), (1, .ref (ad 7 x1 0)), (2, .int x2), (3, .int x3)] := hl
  generalize hargs : ([.ref (ad 7 o 0), .ref (ad 7 x1 0), .int x2, .int x3] : List Value).toArray = args at S hts ⊢
  clear hargs
  have hK0 : ∀ (H : Heap) (locs : List Loc) (ls : Array Slot), zG D aC A nl ad σ s H → va_S A s.heap H locs → lv_has ls 10 [(0, .ref (ad 7 o 0)), (1, .ref (ad 7 x1 0)), (2, .int x2), (3, .int x3)] → f_X7_alikeCellsTurned σ o x1 x2 x3 = some r → zWk p l e ({ frames := 1, cells := 0, slots := 0, locals := 22 } : Room) s m args below meth c A (some (.int r)) (fun t => zG D aC A nl ad σ t t.heap ∧ True) H locs (F0 m 0 ls []) := by
    intro H locs ls hG hS hl hf
    unfold f_X7_alikeCellsTurned at hf
    refine lv_iconst (v := 0) hx hb dX7_alikeCellsTurned_0 (by decide) ?_
    refine lv_istore (lv' := [(4, .int 0), (0, .ref (ad 7 o 0)), (1, .ref (ad 7 x1 0)), (2, .int x2), (3, .int x3)]) hx hb dX7_alikeCellsTurned_1 hl (by decide) rfl (fun ls hl => ?_)
    refine lv_iconst (v := 0) hx hb dX7_alikeCellsTurned_3 (by decide) ?_
    refine lv_istore (lv' := [(5, .int 0), (4, .int 0), (0, .ref (ad 7 o 0)), (1, .ref (ad 7 x1 0)), (2, .int x2), (3, .int x3)]) hx hb dX7_alikeCellsTurned_4 hl (by decide) rfl (fun ls hl => ?_)
    obtain ⟨t6, hw6, hfo6⟩ := zbi hf
    have KL6 : ∀ (n : Nat) (y4l6 : Int32) (y5l6 : Int32) (H : Heap) (locs : List Loc) (ls : Array Slot), zG D aC A nl ad σ s H → va_S A s.heap H locs → lv_has ls 10 [(0, .ref (ad 7 o 0)), (1, .ref (ad 7 x1 0)), (2, .int x2), (3, .int x3), (4, .int y4l6), (5, .int y5l6)] → zwh (fun (q : (Int32 × Int32)) => f_X7_alikeCellsTurned_L6 σ o x1 x2 x3 q.1 q.2) n (y4l6, y5l6) = some t6 → zWk p l e ({ frames := 1, cells := 0, slots := 0, locals := 22 } : Room) s m args below meth c A (some (.int r)) (fun t => zG D aC A nl ad σ t t.heap ∧ True) H locs (F0 m 6 ls []) := by
      intro n
      induction n with
      | zero =>
        intro y4l6 y5l6 H locs ls hG hS hl hw
        exact (zwh_0 hw).elim
      | succ n ih6 =>
        intro y4l6 y5l6 H locs ls hG hS hl hw
        obtain ⟨rr6, hf, hk6⟩ := zwh_u hw
        have hf : f_X7_alikeCellsTurned_L6 σ o x1 x2 x3 y4l6 y5l6 = some rr6 := hf
        unfold f_X7_alikeCellsTurned_L6 at hf
        have KJ100_6 : ∀ (y4b100 : Int32) (y5b100 : Int32)   (H : Heap) (locs : List Loc) (ls : Array Slot), zG D aC A nl ad σ s H → va_S A s.heap H locs → lv_has ls 10 [(0, .ref (ad 7 o 0)), (1, .ref (ad 7 x1 0)), (2, .int x2), (3, .int x3), (4, .int y4b100), (5, .int y5b100)] → (f_X7_alikeCellsTurned_B100_6 σ o x1 x2 x3 y4b100 y5b100) = some rr6 → zWk p l e ({ frames := 1, cells := 0, slots := 0, locals := 22 } : Room) s m args below meth c A (some (.int r)) (fun t => zG D aC A nl ad σ t t.heap ∧ True) H locs (F0 m 100 ls []) := by
          intro y4b100 y5b100   H locs ls hG hS hl hf
          unfold f_X7_alikeCellsTurned_B100_6 at hf
          refine lv_iinc (v := (y5b100 + 1)) (lv' := [(5, .int (y5b100 + 1)), (0, .ref (ad 7 o 0)), (1, .ref (ad 7 x1 0)), (2, .int x2), (3, .int x3), (4, .int y4b100)]) hx hb dX7_alikeCellsTurned_100 hl (k := 5) rfl rfl (by decide) rfl (fun ls hl => ?_)
          refine lv_goto (tgt := 6) hx hb dX7_alikeCellsTurned_103 (by decide) ?_
          cases hf
          exact ih6 y4b100 (y5b100 + 1) H locs ls hG hS (lv_sub hl [1, 2, 3, 4, 5, 0] rfl) hk6
        refine lv_iload hx hb dX7_alikeCellsTurned_6 (lv_at hl 5 rfl) ?_
        refine lv_bipush (v := 8) hx hb dX7_alikeCellsTurned_8 (by decide) ?_
        refine lv_icmp_ge (tgt := 106) hx hb dX7_alikeCellsTurned_10 (by decide) (fun c68 => ?_) (fun c68 => ?_)
        · have hf := zif_p c68 hf
          cases hf
          have hk6 : (y4l6 : Int32) = t6 := hk6
          have hf := hfo6
          rw [← hk6] at hf
          have hf : (some y4l6) = some r := hf
          refine lv_iload hx hb dX7_alikeCellsTurned_106 (lv_at hl 4 rfl) ?_
          have hq := (Option.some.inj hf)
          subst hq
          exact z_iret S hG hS hlocks trivial hr dX7_alikeCellsTurned_108
        · have hf := zif_n c68 hf
          refine lv_iconst (v := 0) hx hb dX7_alikeCellsTurned_13 (by decide) ?_
          refine lv_istore (lv' := [(6, .int 0), (0, .ref (ad 7 o 0)), (1, .ref (ad 7 x1 0)), (2, .int x2), (3, .int x3), (4, .int y4l6), (5, .int y5l6)]) hx hb dX7_alikeCellsTurned_14 hl (by decide) rfl (fun ls hl => ?_)
          obtain ⟨t16, hw16, hfo16⟩ := zbi hf
          have KL16 : ∀ (n : Nat) (y4l16 : Int32) (y6l16 : Int32) (H : Heap) (locs : List Loc) (ls : Array Slot), zG D aC A nl ad σ s H → va_S A s.heap H locs → lv_has ls 10 [(0, .ref (ad 7 o 0)), (1, .ref (ad 7 x1 0)), (2, .int x2), (3, .int x3), (5, .int y5l6), (4, .int y4l16), (6, .int y6l16)] → zwh (fun (q : (Int32 × Int32)) => f_X7_alikeCellsTurned_L16 σ o x1 x2 x3 y5l6 q.1 q.2) n (y4l16, y6l16) = some t16 → zWk p l e ({ frames := 1, cells := 0, slots := 0, locals := 22 } : Room) s m args below meth c A (some (.int r)) (fun t => zG D aC A nl ad σ t t.heap ∧ True) H locs (F0 m 16 ls []) := by
            intro n
            induction n with
            | zero =>
              intro y4l16 y6l16 H locs ls hG hS hl hw
              exact (zwh_0 hw).elim
            | succ n ih16 =>
              intro y4l16 y6l16 H locs ls hG hS hl hw
              obtain ⟨rr16, hf, hk16⟩ := zwh_u hw
              have hf : f_X7_alikeCellsTurned_L16 σ o x1 x2 x3 y5l6 y4l16 y6l16 = some rr16 := hf
              unfold f_X7_alikeCellsTurned_L16 at hf
              have KJ94_16 : ∀ (y4b94 : Int32) (y6b94 : Int32)   (H : Heap) (locs : List Loc) (ls : Array Slot), zG D aC A nl ad σ s H → va_S A s.heap H locs → lv_has ls 10 [(0, .ref (ad 7 o 0)), (1, .ref (ad 7 x1 0)), (2, .int x2), (3, .int x3), (4, .int y4b94), (5, .int y5l6), (6, .int y6b94)] → (f_X7_alikeCellsTurned_B94_16 σ o x1 x2 x3 y4b94 y5l6 y6b94) = some rr16 → zWk p l e ({ frames := 1, cells := 0, slots := 0, locals := 22 } : Room) s m args below meth c A (some (.int r)) (fun t => zG D aC A nl ad σ t t.heap ∧ True) H locs (F0 m 94 ls []) := by
                intro y4b94 y6b94   H locs ls hG hS hl hf
                unfold f_X7_alikeCellsTurned_B94_16 at hf
                refine lv_iinc (v := (y6b94 + 1)) (lv' := [(6, .int (y6b94 + 1)), (0, .ref (ad 7 o 0)), (1, .ref (ad 7 x1 0)), (2, .int x2), (3, .int x3), (4, .int y4b94), (5, .int y5l6)]) hx hb dX7_alikeCellsTurned_94 hl (k := 6) rfl rfl (by decide) rfl (fun ls hl => ?_)
                refine lv_goto (tgt := 16) hx hb dX7_alikeCellsTurned_97 (by decide) ?_
                cases hf
                exact ih16 y4b94 (y6b94 + 1) H locs ls hG hS (lv_sub hl [1, 2, 3, 4, 6, 5, 0] rfl) hk16
              refine lv_iload hx hb dX7_alikeCellsTurned_16 (lv_at hl 6 rfl) ?_
              refine lv_bipush (v := 10) hx hb dX7_alikeCellsTurned_18 (by decide) ?_
              refine lv_icmp_ge (tgt := 100) hx hb dX7_alikeCellsTurned_20 (by decide) (fun c102 => ?_) (fun c102 => ?_)
              · have hf := zif_p c102 hf
                cases hf
                have hk16 : (y4l16 : Int32) = t16 := hk16
                have hf := hfo16
                rw [← hk16] at hf
                have hf : (f_X7_alikeCellsTurned_B100_6 σ o x1 x2 x3 y4l16 y5l6) = some rr6 := hf
                exact KJ100_6 y4l16 y5l6 H locs ls hG hS (lv_sub hl [0, 1, 2, 3, 5, 4] rfl) hf
              · have hf := zif_n c102 hf
                refine lv_aload_n hx hb dX7_alikeCellsTurned_23 rfl (lv_at hl 0 rfl) ?_
                refine lv_iconst (v := 0) hx hb dX7_alikeCellsTurned_24 (by decide) ?_
                refine lv_iload hx hb dX7_alikeCellsTurned_25 (lv_at hl 6 rfl) ?_
                refine lv_iload hx hb dX7_alikeCellsTurned_27 (lv_at hl 4 rfl) ?_
                refine z_callS (n := 3) (rest := [.ref (ad 7 o 0)]) (st1 := [.int (f_X7_placeOf 0 y6l16 y5l6), .ref (ad 7 o 0)]) S hG hS hZ (fun _ _ h => h) (c_X7_placeOf l D aC zs A nl ad σ 0 y6l16 y5l6 (f_X7_placeOf 0 y6l16 y5l6) rfl) zw_1108 zw_821 zw_783 zw_822 (by decide +kernel) ⟨rfl, rfl⟩ ⟨(Nat.le_of_ble_eq_true rfl), (Nat.le_of_ble_eq_true rfl)⟩ hl.1 rfl (by rfl) (by rfl) (Nat.le_of_ble_eq_true rfl) dX7_alikeCellsTurned_29 ⟨Nat.zero_le _, Nat.zero_le _⟩ (fun H locs hz103 hG hS => ?_)
                obtain ⟨r104, er104, hf⟩ := zbi hf
                refine z_callV (n := 1) (rest := []) (st1 := [.int r104]) (c0 := 7) (i0 := o) h_o (by rfl) S hG hS hZ (fun _ _ h => h) (c_X7_thingAt l D aC zs A nl ad σ o (f_X7_placeOf 0 y6l16 y5l6) r104 h_o er104) zw_829 zw_830 zw_831 zw_783 zw_832 (by decide +kernel) ⟨rfl, rfl⟩ ⟨(Nat.le_of_ble_eq_true rfl), (Nat.le_of_ble_eq_true rfl)⟩ hl.1 rfl (by rfl) (by rfl) (Nat.le_of_ble_eq_true rfl) dX7_alikeCellsTurned_32 ⟨Nat.zero_le _, Nat.zero_le _⟩ (fun H locs hz105 hG hS => ?_)
                refine lv_istore (lv' := [(7, .int r104), (0, .ref (ad 7 o 0)), (1, .ref (ad 7 x1 0)), (2, .int x2), (3, .int x3), (5, .int y5l6), (4, .int y4l16), (6, .int y6l16)]) hx hb dX7_alikeCellsTurned_35 hl (by decide) rfl (fun ls hl => ?_)
                refine lv_iload_n hx hb dX7_alikeCellsTurned_37 rfl (lv_at hl 3 rfl) ?_
                have Kv108 : ∀ (v108 : Int32) (ls : Array Slot), lv_has ls 10 [(7, .int r104), (0, .ref (ad 7 o 0)), (1, .ref (ad 7 x1 0)), (2, .int x2), (3, .int x3), (5, .int y5l6), (4, .int y4l16), (6, .int y6l16)] → (if r104 = 0 then (f_X7_alikeCellsTurned_B94_16 σ o x1 x2 x3 y4l16 y5l6 y6l16) else ((f_X7_thingAt σ x1 (f_X7_placeOf 0 v108 (if x3 = 0 then y5l6 else (7 - y5l6) : Int32))).bind fun r127 => if r104 = r127 then (f_X7_alikeCellsTurned_B94_16 σ o x1 x2 x3 (y4l16 + 1) y5l6 y6l16) else (f_X7_alikeCellsTurned_B94_16 σ o x1 x2 x3 y4l16 y5l6 y6l16))) = some rr16 → zWk p l e ({ frames := 1, cells := 0, slots := 0, locals := 22 } : Room) s m args below meth c A (some (.int r)) (fun t => zG D aC A nl ad σ t t.heap ∧ True) H locs (F0 m 51 ls [.int v108]) := by
                  intro v108 ls hl hf
                  refine lv_istore (lv' := [(8, .int v108), (7, .int r104), (0, .ref (ad 7 o 0)), (1, .ref (ad 7 x1 0)), (2, .int x2), (3, .int x3), (5, .int y5l6), (4, .int y4l16), (6, .int y6l16)]) hx hb dX7_alikeCellsTurned_51 hl (by decide) rfl (fun ls hl => ?_)
                  refine lv_iload_n hx hb dX7_alikeCellsTurned_53 rfl (lv_at hl 5 rfl) ?_
                  have Kv124 : ∀ (v124 : Int32) (ls : Array Slot), lv_has ls 10 [(8, .int v108), (7, .int r104), (0, .ref (ad 7 o 0)), (1, .ref (ad 7 x1 0)), (2, .int x2), (3, .int x3), (5, .int y5l6), (4, .int y4l16), (6, .int y6l16)] → (if r104 = 0 then (f_X7_alikeCellsTurned_B94_16 σ o x1 x2 x3 y4l16 y5l6 y6l16) else ((f_X7_thingAt σ x1 (f_X7_placeOf 0 v108 v124)).bind fun r132 => if r104 = r132 then (f_X7_alikeCellsTurned_B94_16 σ o x1 x2 x3 (y4l16 + 1) y5l6 y6l16) else (f_X7_alikeCellsTurned_B94_16 σ o x1 x2 x3 y4l16 y5l6 y6l16))) = some rr16 → zWk p l e ({ frames := 1, cells := 0, slots := 0, locals := 22 } : Room) s m args below meth c A (some (.int r)) (fun t => zG D aC A nl ad σ t t.heap ∧ True) H locs (F0 m 67 ls [.int v124]) := by
                    intro v124 ls hl hf
                    refine lv_istore (lv' := [(9, .int v124), (8, .int v108), (7, .int r104), (0, .ref (ad 7 o 0)), (1, .ref (ad 7 x1 0)), (2, .int x2), (3, .int x3), (5, .int y5l6), (4, .int y4l16), (6, .int y6l16)]) hx hb dX7_alikeCellsTurned_67 hl (by decide) rfl (fun ls hl => ?_)
                    refine lv_iload hx hb dX7_alikeCellsTurned_69 (lv_at hl 2 rfl) ?_
                    refine lv_if_eq (tgt := 94) hx hb dX7_alikeCellsTurned_71 (by decide) (fun c130 => ?_) (fun c130 => ?_)
                    · have hf := zif_p c130 hf
                      exact KJ94_16 y4l16 y6l16 H locs ls hG hS (lv_sub hl [3, 4, 5, 6, 8, 7, 9] rfl) hf
                    · have hf := zif_n c130 hf
                      refine lv_iload hx hb dX7_alikeCellsTurned_74 (lv_at hl 2 rfl) ?_
                      refine lv_aload_n hx hb dX7_alikeCellsTurned_76 rfl (lv_at hl 4 rfl) ?_
                      refine lv_iconst (v := 0) hx hb dX7_alikeCellsTurned_77 (by decide) ?_
                      refine lv_iload hx hb dX7_alikeCellsTurned_78 (lv_at hl 1 rfl) ?_
                      refine lv_iload hx hb dX7_alikeCellsTurned_80 (lv_at hl 0 rfl) ?_
                      refine z_callS (n := 3) (rest := [.ref (ad 7 x1 0), .int r104]) (st1 := [.int (f_X7_placeOf 0 v108 v124), .ref (ad 7 x1 0), .int r104]) S hG hS hZ (fun _ _ h => h) (c_X7_placeOf l D aC zs A nl ad σ 0 v108 v124 (f_X7_placeOf 0 v108 v124) rfl) zw_1108 zw_821 zw_783 zw_822 (by decide +kernel) ⟨rfl, rfl⟩ ⟨(Nat.le_of_ble_eq_true rfl), (Nat.le_of_ble_eq_true rfl)⟩ hl.1 rfl (by rfl) (by rfl) (Nat.le_of_ble_eq_true rfl) dX7_alikeCellsTurned_82 ⟨Nat.zero_le _, Nat.zero_le _⟩ (fun H locs hz131 hG hS => ?_)
                      obtain ⟨r132, er132, hf⟩ := zbi hf
                      refine z_callV (n := 1) (rest := [.int r104]) (st1 := [.int r132, .int r104]) (c0 := 7) (i0 := x1) h_x1 (by rfl) S hG hS hZ (fun _ _ h => h) (c_X7_thingAt l D aC zs A nl ad σ x1 (f_X7_placeOf 0 v108 v124) r132 h_x1 er132) zw_829 zw_830 zw_831 zw_783 zw_832 (by decide +kernel) ⟨rfl, rfl⟩ ⟨(Nat.le_of_ble_eq_true rfl), (Nat.le_of_ble_eq_true rfl)⟩ hl.1 rfl (by rfl) (by rfl) (Nat.le_of_ble_eq_true rfl) dX7_alikeCellsTurned_85 ⟨Nat.zero_le _, Nat.zero_le _⟩ (fun H locs hz133 hG hS => ?_)
                      refine lv_icmp_ne (tgt := 94) hx hb dX7_alikeCellsTurned_88 (by decide) (fun c134 => ?_) (fun c134 => ?_)
                      · have hf := zif_n c134 hf
                        exact KJ94_16 y4l16 y6l16 H locs ls hG hS (lv_sub hl [3, 4, 5, 6, 8, 7, 9] rfl) hf
                      · have hf := zif_p c134 hf
                        refine lv_iinc (v := (y4l16 + 1)) (lv' := [(4, .int (y4l16 + 1)), (9, .int v124), (8, .int v108), (7, .int r104), (0, .ref (ad 7 o 0)), (1, .ref (ad 7 x1 0)), (2, .int x2), (3, .int x3), (5, .int y5l6), (6, .int y6l16)]) hx hb dX7_alikeCellsTurned_91 hl (k := 8) rfl rfl (by decide) rfl (fun ls hl => ?_)
                        exact KJ94_16 (y4l16 + 1) y6l16 H locs ls hG hS (lv_sub hl [4, 5, 6, 7, 0, 8, 9] rfl) hf
                  refine lv_if_eq (tgt := 65) hx hb dX7_alikeCellsTurned_54 (by decide) (fun c123 => ?_) (fun c123 => ?_)
                  · rw [if_pos c123] at hf
                    refine lv_iload hx hb dX7_alikeCellsTurned_65 (lv_at hl 6 rfl) ?_
                    exact Kv124 _ ls hl hf
                  · rw [if_neg c123] at hf
                    refine lv_bipush (v := 7) hx hb dX7_alikeCellsTurned_57 (by decide) ?_
                    refine lv_iload hx hb dX7_alikeCellsTurned_59 (lv_at hl 6 rfl) ?_
                    refine lv_isub hx hb dX7_alikeCellsTurned_61 ?_
                    refine lv_goto (tgt := 67) hx hb dX7_alikeCellsTurned_62 (by decide) ?_
                    exact Kv124 _ ls hl hf
                refine lv_if_eq (tgt := 49) hx hb dX7_alikeCellsTurned_38 (by decide) (fun c107 => ?_) (fun c107 => ?_)
                · rw [if_pos c107] at hf
                  refine lv_iload hx hb dX7_alikeCellsTurned_49 (lv_at hl 7 rfl) ?_
                  exact Kv108 _ ls hl hf
                · rw [if_neg c107] at hf
                  refine lv_bipush (v := 9) hx hb dX7_alikeCellsTurned_41 (by decide) ?_
                  refine lv_iload hx hb dX7_alikeCellsTurned_43 (lv_at hl 7 rfl) ?_
                  refine lv_isub hx hb dX7_alikeCellsTurned_45 ?_
                  refine lv_goto (tgt := 51) hx hb dX7_alikeCellsTurned_46 (by decide) ?_
                  exact Kv108 _ ls hl hf
          exact KL16 zFu y4l6 0 H locs ls hG hS (lv_sub hl [1, 2, 3, 4, 6, 5, 0] rfl) hw16
    exact KL6 zFu 0 0 H locs ls hG hS (lv_sub hl [2, 3, 4, 5, 1, 0] rfl) hw6
  exact hK0 _ _ ls hG hS hl hf
set_option maxRecDepth 100000 in
set_option maxHeartbeats 4000000 in
theorem c_X7_alikeCells (l : Launch) (D : va_G) (aC : Nat → ClassId) (zs : Nat × Nat) (A : Nat → Prop) (nl : zNL) (ad : Nat → Nat → Nat → Nat) (σ : zM) (o : Nat) (x1 : Nat) (r : Int32) (h_o : zin nl 7 o) (h_x1 : zin nl 7 x1) (hf : f_X7_alikeCells σ o x1 = some r) : Met l yX7_alikeCells (Cond.code yX7_alikeCells cX7_alikeCells 4 (some .int) :: wsL_law) ({ frames := 2, cells := 0, slots := 0, locals := 51 } : Room) (zP D aC zs zfX A nl ad σ [.ref (ad 7 o 0), .ref (ad 7 x1 0)]) (zQ (some (.int r)) (fun t => zG D aC A nl ad σ t t.heap ∧ True) A) 0 0 A := by
  refine Met.ofW (cc := cX7_alikeCells) (maxL := 4) (ret := (some .int)) (by decide) rfl ?_
  intro p e s m args below meth c s₁ B hml hv
  obtain ⟨rfl, hG, hZ⟩ := hv
  have hx := B.exec
  have hb := B.bytes
  have hr := B.returns
  have hts : ∀ w ∈ wsL_law, w.before ([.ref (ad 7 o 0), .ref (ad 7 x1 0)] : List Value).toArray s = true := fun w h => (atoms_spec B.pre) w (List.mem_cons_of_mem _ h)
  have hown : s.vm.findClass RX7 = some m.cls := findClass_of_methodNamed B.named
  have hlocks := B.notSynchronized
  have S : zS p m c cX7_alikeCells 4 s ([.ref (ad 7 o 0), .ref (ad 7 x1 0)] : List Value).toArray RX7 := ⟨hx, hb, hml, hown, hts⟩
  have hS : va_S A s.heap s.heap [] := va_S.rf
  have hl := lv_entry ([.ref (ad 7 o 0), .ref (ad 7 x1 0)]) (n := 4) (Nat.le_of_ble_eq_true rfl)
  rw [lg_entry_eq]
  generalize (lg_sl ([.ref (ad 7 o 0), .ref (ad 7 x1 0)]) ++ List.replicate (4 - (lg_sl ([.ref (ad 7 o 0), .ref (ad 7 x1 0)])).length) Slot.unset).toArray = ls at hl ⊢
  have hl : lv_has ls 4 [(0, .ref (ad 7 o 0)), (1, .ref (ad 7 x1 0))] := hl
  generalize hargs : ([.ref (ad 7 o 0), .ref (ad 7 x1 0)] : List Value).toArray = args at S hts ⊢
  clear hargs
  have hK0 : ∀ (H : Heap) (locs : List Loc) (ls : Array Slot), zG D aC A nl ad σ s H → va_S A s.heap H locs → lv_has ls 4 [(0, .ref (ad 7 o 0)), (1, .ref (ad 7 x1 0))] → f_X7_alikeCells σ o x1 = some r → zWk p l e ({ frames := 2, cells := 0, slots := 0, locals := 51 } : Room) s m args below meth c A (some (.int r)) (fun t => zG D aC A nl ad σ t t.heap ∧ True) H locs (F0 m 0 ls []) := by
    intro H locs ls hG hS hl hf
    unfold f_X7_alikeCells at hf
    refine lv_iconst (v := 0) hx hb dX7_alikeCells_0 (by decide) ?_
    refine lv_istore_n (lv' := [(2, .int 0), (0, .ref (ad 7 o 0)), (1, .ref (ad 7 x1 0))]) hx hb dX7_alikeCells_1 rfl hl (by decide) rfl (fun ls hl => ?_)
    refine lv_iconst (v := 0) hx hb dX7_alikeCells_2 (by decide) ?_
    refine lv_istore_n (lv' := [(3, .int 0), (2, .int 0), (0, .ref (ad 7 o 0)), (1, .ref (ad 7 x1 0))]) hx hb dX7_alikeCells_3 rfl hl (by decide) rfl (fun ls hl => ?_)
    obtain ⟨t4, hw4, hfo4⟩ := zbi hf
    have KL4 : ∀ (n : Nat) (y2l4 : Int32) (y3l4 : Int32) (H : Heap) (locs : List Loc) (ls : Array Slot), zG D aC A nl ad σ s H → va_S A s.heap H locs → lv_has ls 4 [(0, .ref (ad 7 o 0)), (1, .ref (ad 7 x1 0)), (2, .int y2l4), (3, .int y3l4)] → zwh (fun (q : (Int32 × Int32)) => f_X7_alikeCells_L4 σ o x1 q.1 q.2) n (y2l4, y3l4) = some t4 → zWk p l e ({ frames := 2, cells := 0, slots := 0, locals := 51 } : Room) s m args below meth c A (some (.int r)) (fun t => zG D aC A nl ad σ t t.heap ∧ True) H locs (F0 m 4 ls []) := by
      intro n
      induction n with
      | zero =>
        intro y2l4 y3l4 H locs ls hG hS hl hw
        exact (zwh_0 hw).elim
      | succ n ih4 =>
        intro y2l4 y3l4 H locs ls hG hS hl hw
        obtain ⟨rr4, hf, hk4⟩ := zwh_u hw
        have hf : f_X7_alikeCells_L4 σ o x1 y2l4 y3l4 = some rr4 := hf
        unfold f_X7_alikeCells_L4 at hf
        refine lv_iload_n hx hb dX7_alikeCells_4 rfl (lv_at hl 3 rfl) ?_
        refine lv_iconst (v := 4) hx hb dX7_alikeCells_5 (by decide) ?_
        refine lv_icmp_ge (tgt := 47) hx hb dX7_alikeCells_6 (by decide) (fun c19 => ?_) (fun c19 => ?_)
        · have hf := zif_p c19 hf
          cases hf
          have hk4 : (y2l4 : Int32) = t4 := hk4
          have hf := hfo4
          rw [← hk4] at hf
          have hf : (some y2l4) = some r := hf
          refine lv_iload_n hx hb dX7_alikeCells_47 rfl (lv_at hl 2 rfl) ?_
          have hq := (Option.some.inj hf)
          subst hq
          exact z_iret S hG hS hlocks trivial hr dX7_alikeCells_48
        · have hf := zif_n c19 hf
          refine lv_iload_n hx hb dX7_alikeCells_9 rfl (lv_at hl 2 rfl) ?_
          refine lv_aload_n hx hb dX7_alikeCells_10 rfl (lv_at hl 0 rfl) ?_
          refine lv_aload_n hx hb dX7_alikeCells_11 rfl (lv_at hl 1 rfl) ?_
          refine lv_iload_n hx hb dX7_alikeCells_12 rfl (lv_at hl 3 rfl) ?_
          refine lv_iconst (v := 1) hx hb dX7_alikeCells_13 (by decide) ?_
          refine lv_iand hx hb dX7_alikeCells_14 ?_
          have Kv22 : ∀ (v22 : Int32) (ls : Array Slot), lv_has ls 4 [(0, .ref (ad 7 o 0)), (1, .ref (ad 7 x1 0)), (2, .int y2l4), (3, .int y3l4)] → ((f_X7_alikeCellsTurned σ o x1 v22 (if (y3l4 &&& 2) = 0 then 0 else 1 : Int32)).bind fun r33 => some (.inl ((zmax y2l4 r33), (y3l4 + 1)))) = some rr4 → zWk p l e ({ frames := 2, cells := 0, slots := 0, locals := 51 } : Room) s m args below meth c A (some (.int r)) (fun t => zG D aC A nl ad σ t t.heap ∧ True) H locs (F0 m 23 ls [.int v22, .ref (ad 7 x1 0), .ref (ad 7 o 0), .int y2l4]) := by
            intro v22 ls hl hf
            refine lv_iload_n hx hb dX7_alikeCells_23 rfl (lv_at hl 3 rfl) ?_
            refine lv_iconst (v := 2) hx hb dX7_alikeCells_24 (by decide) ?_
            refine lv_iand hx hb dX7_alikeCells_25 ?_
            have Kv32 : ∀ (v32 : Int32) (ls : Array Slot), lv_has ls 4 [(0, .ref (ad 7 o 0)), (1, .ref (ad 7 x1 0)), (2, .int y2l4), (3, .int y3l4)] → ((f_X7_alikeCellsTurned σ o x1 v22 v32).bind fun r35 => some (.inl ((zmax y2l4 r35), (y3l4 + 1)))) = some rr4 → zWk p l e ({ frames := 2, cells := 0, slots := 0, locals := 51 } : Room) s m args below meth c A (some (.int r)) (fun t => zG D aC A nl ad σ t t.heap ∧ True) H locs (F0 m 34 ls [.int v32, .int v22, .ref (ad 7 x1 0), .ref (ad 7 o 0), .int y2l4]) := by
              intro v32 ls hl hf
              obtain ⟨r35, er35, hf⟩ := zbi hf
              refine z_callV (n := 3) (rest := [.int y2l4]) (st1 := [.int r35, .int y2l4]) (c0 := 7) (i0 := o) h_o (by rfl) S hG hS hZ (fun _ _ h => h) (c_X7_alikeCellsTurned l D aC zs A nl ad σ o x1 v22 v32 r35 h_o h_x1 er35) zw_1104 zw_1105 zw_1106 zw_783 zw_1107 (by decide +kernel) ⟨rfl, rfl⟩ ⟨(Nat.le_of_ble_eq_true rfl), (Nat.le_of_ble_eq_true rfl)⟩ hl.1 rfl (by rfl) (by rfl) (Nat.le_of_ble_eq_true rfl) dX7_alikeCells_34 ⟨Nat.zero_le _, Nat.zero_le _⟩ (fun H locs hz36 hG hS => ?_)
              refine z_mmax (v := (zmax y2l4 r35)) S hl zw_1103 zw_90 zw_91 zw_92 (Nat.le_of_ble_eq_true rfl) (Nat.le_of_ble_eq_true rfl) (Nat.le_of_ble_eq_true rfl) (Nat.zero_le _) (Nat.zero_le _) rfl dX7_alikeCells_37 ?_
              refine lv_istore_n (lv' := [(2, .int (zmax y2l4 r35)), (0, .ref (ad 7 o 0)), (1, .ref (ad 7 x1 0)), (3, .int y3l4)]) hx hb dX7_alikeCells_40 rfl hl (by decide) rfl (fun ls hl => ?_)
              refine lv_iinc (v := (y3l4 + 1)) (lv' := [(3, .int (y3l4 + 1)), (2, .int (zmax y2l4 r35)), (0, .ref (ad 7 o 0)), (1, .ref (ad 7 x1 0))]) hx hb dX7_alikeCells_41 hl (k := 3) rfl rfl (by decide) rfl (fun ls hl => ?_)
              refine lv_goto (tgt := 4) hx hb dX7_alikeCells_44 (by decide) ?_
              cases hf
              exact ih4 (zmax y2l4 r35) (y3l4 + 1) H locs ls hG hS (lv_sub hl [2, 3, 1, 0] rfl) hk4
            refine lv_if_eq (tgt := 33) hx hb dX7_alikeCells_26 (by decide) (fun c31 => ?_) (fun c31 => ?_)
            · rw [if_pos c31] at hf
              refine lv_iconst (v := 0) hx hb dX7_alikeCells_33 (by decide) ?_
              exact Kv32 _ ls hl hf
            · rw [if_neg c31] at hf
              refine lv_iconst (v := 1) hx hb dX7_alikeCells_29 (by decide) ?_
              refine lv_goto (tgt := 34) hx hb dX7_alikeCells_30 (by decide) ?_
              exact Kv32 _ ls hl hf
          refine lv_if_eq (tgt := 22) hx hb dX7_alikeCells_15 (by decide) (fun c21 => ?_) (fun c21 => ?_)
          · rw [if_pos c21] at hf
            refine lv_iconst (v := 0) hx hb dX7_alikeCells_22 (by decide) ?_
            exact Kv22 _ ls hl hf
          · rw [if_neg c21] at hf
            refine lv_iconst (v := 1) hx hb dX7_alikeCells_18 (by decide) ?_
            refine lv_goto (tgt := 23) hx hb dX7_alikeCells_19 (by decide) ?_
            exact Kv22 _ ls hl hf
    exact KL4 zFu 0 0 H locs ls hG hS (lv_sub hl [2, 3, 1, 0] rfl) hw4
  exact hK0 _ _ ls hG hS hl hf
set_option maxRecDepth 100000 in
set_option maxHeartbeats 4000000 in
theorem c_X8_setSun (l : Launch) (D : va_G) (aC : Nat → ClassId) (zs : Nat × Nat) (A : Nat → Prop) (nl : zNL) (ad : Nat → Nat → Nat → Nat) (σ : zM) (x1 : Int32) (x2 : Int32)  (σ' : zM)  (hf : f_X8_setSun σ x1 x2 = some σ') : Met l yX8_setSun (Cond.code yX8_setSun cX8_setSun 3 none :: wsL_law) ({ frames := 0, cells := 0, slots := 0, locals := 0 } : Room) (zP D aC zs zfX A nl ad σ [.ref (ad 8 0 0), .int x1, .int x2]) (zQ none (fun t => zG D aC A nl ad σ' t t.heap ∧ True) A) 0 0 A := by
  refine Met.ofW (cc := cX8_setSun) (maxL := 3) (ret := none) (by decide) rfl ?_
  intro p e s m args below meth c s₁ B hml hv
  obtain ⟨rfl, hG, hZ⟩ := hv
  have hx := B.exec
  have hb := B.bytes
  have hr := B.returns
  have hts : ∀ w ∈ wsL_law, w.before ([.ref (ad 8 0 0), .int x1, .int x2] : List Value).toArray s = true := fun w h => (atoms_spec B.pre) w (List.mem_cons_of_mem _ h)
  have hown : s.vm.findClass RX8 = some m.cls := findClass_of_methodNamed B.named
  have hlocks := B.notSynchronized
  have S : zS p m c cX8_setSun 3 s ([.ref (ad 8 0 0), .int x1, .int x2] : List Value).toArray RX8 := ⟨hx, hb, hml, hown, hts⟩
  have hS : va_S A s.heap s.heap [] := va_S.rf
  have hl := lv_entry ([.ref (ad 8 0 0), .int x1, .int x2]) (n := 3) (Nat.le_of_ble_eq_true rfl)
  rw [lg_entry_eq]
  generalize (lg_sl ([.ref (ad 8 0 0), .int x1, .int x2]) ++ List.replicate (3 - (lg_sl ([.ref (ad 8 0 0), .int x1, .int x2])).length) Slot.unset).toArray = ls at hl ⊢
  have hl : lv_has ls 3 [(0, .ref (ad 8 0 0)), (1, .int x1), (2, .int x2)] := hl
  generalize hargs : ([.ref (ad 8 0 0), .int x1, .int x2] : List Value).toArray = args at S hts ⊢
  clear hargs
  have hK0 : ∀ (H : Heap) (locs : List Loc) (ls : Array Slot), zG D aC A nl ad σ s H → va_S A s.heap H locs → lv_has ls 3 [(0, .ref (ad 8 0 0)), (1, .int x1), (2, .int x2)] → f_X8_setSun σ x1 x2 = some σ' → zWk p l e ({ frames := 0, cells := 0, slots := 0, locals := 0 } : Room) s m args below meth c A none (fun t => zG D aC A nl ad σ' t t.heap ∧ True) H locs (F0 m 0 ls []) := by
    intro H locs ls hG hS hl hf
    unfold f_X8_setSun at hf
    refine lv_iload_n hx hb dX8_setSun_0 rfl (lv_at hl 1 rfl) ?_
    refine lv_if_lt (tgt := 20) hx hb dX8_setSun_1 (by decide) (fun c1 => ?_) (fun c1 => ?_)
    · have hf := zif_p c1 hf
      have hq := (Option.some.inj hf)
      subst hq
      exact z_vret S hG hS hlocks trivial hr dX8_setSun_20
    · have hf := zif_n c1 hf
      refine lv_iload_n hx hb dX8_setSun_4 rfl (lv_at hl 1 rfl) ?_
      refine lv_aload_n hx hb dX8_setSun_5 rfl (lv_at hl 0 rfl) ?_
      refine z_get (c0 := 8) (i0 := 0) (k0 := 0) (T := TX8) (v := .ref (ad 8 0 1)) S hG (hZ.2.1 (8, 0) (by decide)) rfl inlX8 (by decide) rfl zw_188 rfl dX8_setSun_6 ?_
      refine z_alen (c0 := 8) (i0 := 0) (k0 := 0) (n := 4) (v := 4) S hG (hZ.2.1 (8, 0) (by decide)) (by decide) rfl (by decide) (by rfl) dX8_setSun_9 ?_
      refine lv_icmp_ge (tgt := 20) hx hb dX8_setSun_10 (by decide) (fun c2 => ?_) (fun c2 => ?_)
      · have hf := zif_p c2 hf
        have hq := (Option.some.inj hf)
        subst hq
        exact z_vret S hG hS hlocks trivial hr dX8_setSun_20
      · have hf := zif_n c2 hf
        refine lv_aload_n hx hb dX8_setSun_13 rfl (lv_at hl 0 rfl) ?_
        refine z_get (c0 := 8) (i0 := 0) (k0 := 0) (T := TX8) (v := .ref (ad 8 0 1)) S hG (hZ.2.1 (8, 0) (by decide)) rfl inlX8 (by decide) rfl zw_188 rfl dX8_setSun_14 ?_
        refine lv_iload_n hx hb dX8_setSun_17 rfl (lv_at hl 1 rfl) ?_
        refine lv_iload_n hx hb dX8_setSun_18 rfl (lv_at hl 2 rfl) ?_
        obtain ⟨i3, hi3, hf⟩ := zbi hf
        refine z_iast (c0 := 8) (i0 := 0) (k0 := 0) S hG hS (hZ.2.1 (8, 0) (by decide)) (by decide) rfl hi3 dX8_setSun_19 (fun H locs hG hS => ?_)
        obtain ⟨σ4, eσ4, hf⟩ := zlt_s hf
        rw [← eσ4] at hG
        have hq := (Option.some.inj hf)
        subst hq
        exact z_vret S hG hS hlocks trivial hr dX8_setSun_20
  exact hK0 _ _ ls hG hS hl hf
set_option maxRecDepth 100000 in
set_option maxHeartbeats 4000000 in
theorem c_X8_forgetMend (l : Launch) (D : va_G) (aC : Nat → ClassId) (zs : Nat × Nat) (A : Nat → Prop) (nl : zNL) (ad : Nat → Nat → Nat → Nat) (σ : zM)   (σ' : zM)  (hf : f_X8_forgetMend σ = σ') : Met l yX8_forgetMend (Cond.code yX8_forgetMend cX8_forgetMend 1 none :: wsL_law) ({ frames := 0, cells := 0, slots := 0, locals := 0 } : Room) (zP D aC zs zfX A nl ad σ [.ref (ad 8 0 0)]) (zQ none (fun t => zG D aC A nl ad σ' t t.heap ∧ True) A) 0 0 A := by
  refine Met.ofW (cc := cX8_forgetMend) (maxL := 1) (ret := none) (by decide) rfl ?_
  intro p e s m args below meth c s₁ B hml hv
  obtain ⟨rfl, hG, hZ⟩ := hv
  have hx := B.exec
  have hb := B.bytes
  have hr := B.returns
  have hts : ∀ w ∈ wsL_law, w.before ([.ref (ad 8 0 0)] : List Value).toArray s = true := fun w h => (atoms_spec B.pre) w (List.mem_cons_of_mem _ h)
  have hown : s.vm.findClass RX8 = some m.cls := findClass_of_methodNamed B.named
  have hlocks := B.notSynchronized
  have S : zS p m c cX8_forgetMend 1 s ([.ref (ad 8 0 0)] : List Value).toArray RX8 := ⟨hx, hb, hml, hown, hts⟩
  have hS : va_S A s.heap s.heap [] := va_S.rf
  have hl := lv_entry ([.ref (ad 8 0 0)]) (n := 1) (Nat.le_of_ble_eq_true rfl)
  rw [lg_entry_eq]
  generalize (lg_sl ([.ref (ad 8 0 0)]) ++ List.replicate (1 - (lg_sl ([.ref (ad 8 0 0)])).length) Slot.unset).toArray = ls at hl ⊢
  have hl : lv_has ls 1 [(0, .ref (ad 8 0 0))] := hl
  generalize hargs : ([.ref (ad 8 0 0)] : List Value).toArray = args at S hts ⊢
  clear hargs
  have hK0 : ∀ (H : Heap) (locs : List Loc) (ls : Array Slot), zG D aC A nl ad σ s H → va_S A s.heap H locs → lv_has ls 1 [(0, .ref (ad 8 0 0))] → f_X8_forgetMend σ = σ' → zWk p l e ({ frames := 0, cells := 0, slots := 0, locals := 0 } : Room) s m args below meth c A none (fun t => zG D aC A nl ad σ' t t.heap ∧ True) H locs (F0 m 0 ls []) := by
    intro H locs ls hG hS hl hf
    unfold f_X8_forgetMend at hf
    refine lv_aload_n hx hb dX8_forgetMend_0 rfl (lv_at hl 0 rfl) ?_
    refine lv_iconst (v := (-1)) hx hb dX8_forgetMend_1 (by decide) ?_
    refine z_putI (c0 := 8) (i0 := 0) (k0 := 4) (T := TX8) S hG hS tyX8 tyX8_ok nmX8 (hZ.2.1 (8, 0) (by decide)) rfl inlX8 (by decide) rfl rfl zw_192 (by decide +kernel) rfl dX8_forgetMend_2 (fun H locs hG hS => ?_)
    obtain ⟨σ1, eσ1, hf⟩ := zlt_s hf
    rw [← eσ1] at hG
    have hq := hf
    subst hq
    exact z_vret S hG hS hlocks trivial hr dX8_forgetMend_5
  exact hK0 _ _ ls hG hS hl hf
set_option maxRecDepth 100000 in
set_option maxHeartbeats 4000000 in
theorem c_X8_mendPart (l : Launch) (D : va_G) (aC : Nat → ClassId) (zs : Nat × Nat) (A : Nat → Prop) (nl : zNL) (ad : Nat → Nat → Nat → Nat) (σ : zM) (x1 : Int32) (r : Int32)  (hf : f_X8_mendPart σ x1 = some r) : Met l yX8_mendPart (Cond.code yX8_mendPart cX8_mendPart 2 (some .int) :: wsL_law) ({ frames := 0, cells := 0, slots := 0, locals := 0 } : Room) (zP D aC zs zfX A nl ad σ [.ref (ad 8 0 0), .int x1]) (zQ (some (.int r)) (fun t => zG D aC A nl ad σ t t.heap ∧ True) A) 0 0 A := by
  refine Met.ofW (cc := cX8_mendPart) (maxL := 2) (ret := (some .int)) (by decide) rfl ?_
  intro p e s m args below meth c s₁ B hml hv
  obtain ⟨rfl, hG, hZ⟩ := hv
  have hx := B.exec
  have hb := B.bytes
  have hr := B.returns
  have hts : ∀ w ∈ wsL_law, w.before ([.ref (ad 8 0 0), .int x1] : List Value).toArray s = true := fun w h => (atoms_spec B.pre) w (List.mem_cons_of_mem _ h)
  have hown : s.vm.findClass RX8 = some m.cls := findClass_of_methodNamed B.named
  have hlocks := B.notSynchronized
  have S : zS p m c cX8_mendPart 2 s ([.ref (ad 8 0 0), .int x1] : List Value).toArray RX8 := ⟨hx, hb, hml, hown, hts⟩
  have hS : va_S A s.heap s.heap [] := va_S.rf
  have hl := lv_entry ([.ref (ad 8 0 0), .int x1]) (n := 2) (Nat.le_of_ble_eq_true rfl)
  rw [lg_entry_eq]
  generalize (lg_sl ([.ref (ad 8 0 0), .int x1]) ++ List.replicate (2 - (lg_sl ([.ref (ad 8 0 0), .int x1])).length) Slot.unset).toArray = ls at hl ⊢
  have hl : lv_has ls 2 [(0, .ref (ad 8 0 0)), (1, .int x1)] := hl
  generalize hargs : ([.ref (ad 8 0 0), .int x1] : List Value).toArray = args at S hts ⊢
  clear hargs
  have hK0 : ∀ (H : Heap) (locs : List Loc) (ls : Array Slot), zG D aC A nl ad σ s H → va_S A s.heap H locs → lv_has ls 2 [(0, .ref (ad 8 0 0)), (1, .int x1)] → f_X8_mendPart σ x1 = some r → zWk p l e ({ frames := 0, cells := 0, slots := 0, locals := 0 } : Room) s m args below meth c A (some (.int r)) (fun t => zG D aC A nl ad σ t t.heap ∧ True) H locs (F0 m 0 ls []) := by
    intro H locs ls hG hS hl hf
    unfold f_X8_mendPart at hf
    refine lv_iload_n hx hb dX8_mendPart_0 rfl (lv_at hl 1 rfl) ?_
    refine lv_if_lt (tgt := 22) hx hb dX8_mendPart_1 (by decide) (fun c1 => ?_) (fun c1 => ?_)
    · have hf := zif_p c1 hf
      refine lv_iconst (v := (-1)) hx hb dX8_mendPart_22 (by decide) ?_
      have hq := (Option.some.inj hf)
      subst hq
      exact z_iret S hG hS hlocks trivial hr dX8_mendPart_23
    · have hf := zif_n c1 hf
      refine lv_iload_n hx hb dX8_mendPart_4 rfl (lv_at hl 1 rfl) ?_
      refine lv_aload_n hx hb dX8_mendPart_5 rfl (lv_at hl 0 rfl) ?_
      refine z_get (c0 := 8) (i0 := 0) (k0 := 3) (T := TX8) (v := .ref (ad 8 0 4)) S hG (hZ.2.1 (8, 0) (by decide)) rfl inlX8 (by decide) rfl zw_191 rfl dX8_mendPart_6 ?_
      refine z_alen (c0 := 8) (i0 := 0) (k0 := 3) (n := 4) (v := 5) S hG (hZ.2.1 (8, 0) (by decide)) (by decide) rfl (by decide) (by rfl) dX8_mendPart_9 ?_
      refine lv_icmp_ge (tgt := 22) hx hb dX8_mendPart_10 (by decide) (fun c2 => ?_) (fun c2 => ?_)
      · have hf := zif_p c2 hf
        refine lv_iconst (v := (-1)) hx hb dX8_mendPart_22 (by decide) ?_
        have hq := (Option.some.inj hf)
        subst hq
        exact z_iret S hG hS hlocks trivial hr dX8_mendPart_23
      · have hf := zif_n c2 hf
        refine lv_aload_n hx hb dX8_mendPart_13 rfl (lv_at hl 0 rfl) ?_
        refine z_get (c0 := 8) (i0 := 0) (k0 := 3) (T := TX8) (v := .ref (ad 8 0 4)) S hG (hZ.2.1 (8, 0) (by decide)) rfl inlX8 (by decide) rfl zw_191 rfl dX8_mendPart_14 ?_
        refine lv_iload_n hx hb dX8_mendPart_17 rfl (lv_at hl 1 rfl) ?_
        obtain ⟨i3, hi3, hf⟩ := zbi hf
        refine z_iald (c0 := 8) (i0 := 0) (k0 := 3) S hG (hZ.2.1 (8, 0) (by decide)) (by decide) rfl hi3 dX8_mendPart_18 ?_
        refine lv_goto (tgt := 23) hx hb dX8_mendPart_19 (by decide) ?_
        have hq := (Option.some.inj hf)
        subst hq
        exact z_iret S hG hS hlocks trivial hr dX8_mendPart_23
  exact hK0 _ _ ls hG hS hl hf
set_option maxRecDepth 100000 in
set_option maxHeartbeats 4000000 in
theorem c_X8_lightAt (l : Launch) (D : va_G) (aC : Nat → ClassId) (zs : Nat × Nat) (A : Nat → Prop) (nl : zNL) (ad : Nat → Nat → Nat → Nat) (σ : zM) (x1 : Nat) (x2 : Int32) (r : Int32) (h_x1 : zin nl 7 x1) (hf : f_X8_lightAt σ x1 x2 = some r) : Met l yX8_lightAt (Cond.code yX8_lightAt cX8_lightAt 7 (some .int) :: wsL_law) ({ frames := 1, cells := 0, slots := 0, locals := 21 } : Room) (zP D aC zs zfX A nl ad σ [.ref (ad 8 0 0), .ref (ad 7 x1 0), .int x2]) (zQ (some (.int r)) (fun t => zG D aC A nl ad σ t t.heap ∧ True) A) 0 0 A := by
  refine Met.ofW (cc := cX8_lightAt) (maxL := 7) (ret := (some .int)) (by decide) rfl ?_
  intro p e s m args below meth c s₁ B hml hv
  obtain ⟨rfl, hG, hZ⟩ := hv
  have hx := B.exec
  have hb := B.bytes
  have hr := B.returns
  have hts : ∀ w ∈ wsL_law, w.before ([.ref (ad 8 0 0), .ref (ad 7 x1 0), .int x2] : List Value).toArray s = true := fun w h => (atoms_spec B.pre) w (List.mem_cons_of_mem _ h)
  have hown : s.vm.findClass RX8 = some m.cls := findClass_of_methodNamed B.named
  have hlocks := B.notSynchronized
  have S : zS p m c cX8_lightAt 7 s ([.ref (ad 8 0 0), .ref (ad 7 x1 0), .int x2] : List Value).toArray RX8 := ⟨hx, hb, hml, hown, hts⟩
  have hS : va_S A s.heap s.heap [] := va_S.rf
  have hl := lv_entry ([.ref (ad 8 0 0), .ref (ad 7 x1 0), .int x2]) (n := 7) (Nat.le_of_ble_eq_true rfl)
  rw [lg_entry_eq]
  generalize (lg_sl ([.ref (ad 8 0 0), .ref (ad 7 x1 0), .int x2]) ++ List.replicate (7 - (lg_sl ([.ref (ad 8 0 0), .ref (ad 7 x1 0), .int x2])).length) Slot.unset).toArray = ls at hl ⊢
  have hl : lv_has ls 7 [(0, .ref (ad 8 0 0)), (1, .ref (ad 7 x1 0)), (2, .int x2)] := hl
  generalize hargs : ([.ref (ad 8 0 0), .ref (ad 7 x1 0), .int x2] : List Value).toArray = args at S hts ⊢
  clear hargs
  have hK0 : ∀ (H : Heap) (locs : List Loc) (ls : Array Slot), zG D aC A nl ad σ s H → va_S A s.heap H locs → lv_has ls 7 [(0, .ref (ad 8 0 0)), (1, .ref (ad 7 x1 0)), (2, .int x2)] → f_X8_lightAt σ x1 x2 = some r → zWk p l e ({ frames := 1, cells := 0, slots := 0, locals := 21 } : Room) s m args below meth c A (some (.int r)) (fun t => zG D aC A nl ad σ t t.heap ∧ True) H locs (F0 m 0 ls []) := by
    intro H locs ls hG hS hl hf
    unfold f_X8_lightAt at hf
    refine lv_iconst (v := 0) hx hb dX8_lightAt_0 (by decide) ?_
    refine lv_istore_n (lv' := [(3, .int 0), (0, .ref (ad 8 0 0)), (1, .ref (ad 7 x1 0)), (2, .int x2)]) hx hb dX8_lightAt_1 rfl hl (by decide) rfl (fun ls hl => ?_)
    refine lv_aload_n hx hb dX8_lightAt_2 rfl (lv_at hl 2 rfl) ?_
    refine z_get (c0 := 7) (i0 := x1) (k0 := 2) (T := TX7) (v := .ref (ad 7 x1 3)) S hG h_x1 rfl inlX7 (by decide) rfl zw_886 rfl dX8_lightAt_3 ?_
    refine lv_astore (lv' := [(4, .ref (ad 7 x1 3)), (3, .int 0), (0, .ref (ad 8 0 0)), (1, .ref (ad 7 x1 0)), (2, .int x2)]) hx hb dX8_lightAt_6 hl (by decide) rfl (fun ls hl => ?_)
    refine lv_iconst (v := 0) hx hb dX8_lightAt_8 (by decide) ?_
    refine lv_istore (lv' := [(5, .int 0), (4, .ref (ad 7 x1 3)), (3, .int 0), (0, .ref (ad 8 0 0)), (1, .ref (ad 7 x1 0)), (2, .int x2)]) hx hb dX8_lightAt_9 hl (by decide) rfl (fun ls hl => ?_)
    obtain ⟨t11, hw11, hfo11⟩ := zbi hf
    have KL11 : ∀ (n : Nat) (y3l11 : Int32) (y5l11 : Int32) (H : Heap) (locs : List Loc) (ls : Array Slot), zG D aC A nl ad σ s H → va_S A s.heap H locs → lv_has ls 7 [(0, .ref (ad 8 0 0)), (1, .ref (ad 7 x1 0)), (2, .int x2), (4, .ref (ad 7 x1 3)), (3, .int y3l11), (5, .int y5l11)] → zwh (fun (q : (Int32 × Int32)) => f_X8_lightAt_L11 σ x1 x2 q.1 q.2) n (y3l11, y5l11) = some t11 → zWk p l e ({ frames := 1, cells := 0, slots := 0, locals := 21 } : Room) s m args below meth c A (some (.int r)) (fun t => zG D aC A nl ad σ t t.heap ∧ True) H locs (F0 m 11 ls []) := by
      intro n
      induction n with
      | zero =>
        intro y3l11 y5l11 H locs ls hG hS hl hw
        exact (zwh_0 hw).elim
      | succ n ih11 =>
        intro y3l11 y5l11 H locs ls hG hS hl hw
        obtain ⟨rr11, hf, hk11⟩ := zwh_u hw
        have hf : f_X8_lightAt_L11 σ x1 x2 y3l11 y5l11 = some rr11 := hf
        unfold f_X8_lightAt_L11 at hf
        have KJ73_11 : ∀ (y3b73 : Int32) (y5b73 : Int32)   (H : Heap) (locs : List Loc) (ls : Array Slot), zG D aC A nl ad σ s H → va_S A s.heap H locs → lv_has ls 7 [(0, .ref (ad 8 0 0)), (1, .ref (ad 7 x1 0)), (2, .int x2), (3, .int y3b73), (4, .ref (ad 7 x1 3)), (5, .int y5b73)] → (f_X8_lightAt_B73_11 σ x1 x2 y3b73 y5b73) = some rr11 → zWk p l e ({ frames := 1, cells := 0, slots := 0, locals := 21 } : Room) s m args below meth c A (some (.int r)) (fun t => zG D aC A nl ad σ t t.heap ∧ True) H locs (F0 m 73 ls []) := by
          intro y3b73 y5b73   H locs ls hG hS hl hf
          unfold f_X8_lightAt_B73_11 at hf
          refine lv_iinc (v := (y5b73 + 1)) (lv' := [(5, .int (y5b73 + 1)), (0, .ref (ad 8 0 0)), (1, .ref (ad 7 x1 0)), (2, .int x2), (3, .int y3b73), (4, .ref (ad 7 x1 3))]) hx hb dX8_lightAt_73 hl (k := 5) rfl rfl (by decide) rfl (fun ls hl => ?_)
          refine lv_goto (tgt := 11) hx hb dX8_lightAt_76 (by decide) ?_
          cases hf
          exact ih11 y3b73 (y5b73 + 1) H locs ls hG hS (lv_sub hl [1, 2, 3, 5, 4, 0] rfl) hk11
        refine lv_iload hx hb dX8_lightAt_11 (lv_at hl 5 rfl) ?_
        refine lv_aload_n hx hb dX8_lightAt_13 rfl (lv_at hl 0 rfl) ?_
        refine z_get (c0 := 8) (i0 := 0) (k0 := 0) (T := TX8) (v := .ref (ad 8 0 1)) S hG (hZ.2.1 (8, 0) (by decide)) rfl inlX8 (by decide) rfl zw_188 rfl dX8_lightAt_14 ?_
        refine z_alen (c0 := 8) (i0 := 0) (k0 := 0) (n := 4) (v := 4) S hG (hZ.2.1 (8, 0) (by decide)) (by decide) rfl (by decide) (by rfl) dX8_lightAt_17 ?_
        refine lv_icmp_ge (tgt := 79) hx hb dX8_lightAt_18 (by decide) (fun c9 => ?_) (fun c9 => ?_)
        · have hf := zif_p c9 hf
          cases hf
          have hk11 : (y3l11 : Int32) = t11 := hk11
          have hf := hfo11
          rw [← hk11] at hf
          have hf : (some y3l11) = some r := hf
          refine lv_iload_n hx hb dX8_lightAt_79 rfl (lv_at hl 4 rfl) ?_
          have hq := (Option.some.inj hf)
          subst hq
          exact z_iret S hG hS hlocks trivial hr dX8_lightAt_80
        · have hf := zif_n c9 hf
          refine lv_iload hx hb dX8_lightAt_21 (lv_at hl 5 rfl) ?_
          refine z_gets (v := .ref zs.2) S hZ.2.2.2.2.1 hS zw_887 dX8_lightAt_23 ?_
          refine z_tlen (v := 4) S hZ.2.2.2.2.2.1 hS rfl dX8_lightAt_26 ?_
          refine lv_icmp_ge (tgt := 79) hx hb dX8_lightAt_27 (by decide) (fun c10 => ?_) (fun c10 => ?_)
          · have hf := zif_p c10 hf
            cases hf
            have hk11 : (y3l11 : Int32) = t11 := hk11
            have hf := hfo11
            rw [← hk11] at hf
            have hf : (some y3l11) = some r := hf
            refine lv_iload_n hx hb dX8_lightAt_79 rfl (lv_at hl 4 rfl) ?_
            have hq := (Option.some.inj hf)
            subst hq
            exact z_iret S hG hS hlocks trivial hr dX8_lightAt_80
          · have hf := zif_n c10 hf
            refine lv_iload_n hx hb dX8_lightAt_30 rfl (lv_at hl 2 rfl) ?_
            refine z_gets (v := .ref zs.2) S hZ.2.2.2.2.1 hS zw_887 dX8_lightAt_31 ?_
            refine lv_iload hx hb dX8_lightAt_34 (lv_at hl 5 rfl) ?_
            obtain ⟨i11, hi11, hf⟩ := zbi hf
            refine z_ti S hZ.2.2.2.2.2.1 hS hi11 dX8_lightAt_36 ?_
            refine lv_iadd hx hb dX8_lightAt_37 ?_
            refine lv_istore (lv' := [(6, .int (x2 + (zBES i11))), (0, .ref (ad 8 0 0)), (1, .ref (ad 7 x1 0)), (2, .int x2), (4, .ref (ad 7 x1 3)), (3, .int y3l11), (5, .int y5l11)]) hx hb dX8_lightAt_38 hl (by decide) rfl (fun ls hl => ?_)
            refine lv_iload hx hb dX8_lightAt_40 (lv_at hl 0 rfl) ?_
            refine lv_if_lt (tgt := 73) hx hb dX8_lightAt_42 (by decide) (fun c12 => ?_) (fun c12 => ?_)
            · have hf := zif_p c12 hf
              exact KJ73_11 y3l11 y5l11 H locs ls hG hS (lv_sub hl [1, 2, 3, 5, 4, 6] rfl) hf
            · have hf := zif_n c12 hf
              refine lv_iload hx hb dX8_lightAt_45 (lv_at hl 0 rfl) ?_
              refine lv_aload hx hb dX8_lightAt_47 (lv_at hl 4 rfl) ?_
              refine z_alen (c0 := 7) (i0 := x1) (k0 := 2) (n := 4) (v := 240) S hG h_x1 (by decide) rfl (by decide) (by rfl) dX8_lightAt_49 ?_
              refine lv_icmp_ge (tgt := 73) hx hb dX8_lightAt_50 (by decide) (fun c13 => ?_) (fun c13 => ?_)
              · have hf := zif_p c13 hf
                exact KJ73_11 y3l11 y5l11 H locs ls hG hS (lv_sub hl [1, 2, 3, 5, 4, 6] rfl) hf
              · have hf := zif_n c13 hf
                refine lv_aload hx hb dX8_lightAt_53 (lv_at hl 4 rfl) ?_
                refine lv_iload hx hb dX8_lightAt_55 (lv_at hl 0 rfl) ?_
                obtain ⟨i14, hi14, hf⟩ := zbi hf
                refine z_iald (c0 := 7) (i0 := x1) (k0 := 2) S hG h_x1 (by decide) rfl hi14 dX8_lightAt_57 ?_
                refine lv_if_ne (tgt := 73) hx hb dX8_lightAt_58 (by decide) (fun c15 => ?_) (fun c15 => ?_)
                · have hf := zif_n c15 hf
                  exact KJ73_11 y3l11 y5l11 H locs ls hG hS (lv_sub hl [1, 2, 3, 5, 4, 6] rfl) hf
                · have hf := zif_p c15 hf
                  refine lv_iload_n hx hb dX8_lightAt_61 rfl (lv_at hl 5 rfl) ?_
                  refine lv_aload_n hx hb dX8_lightAt_62 rfl (lv_at hl 1 rfl) ?_
                  refine z_get (c0 := 8) (i0 := 0) (k0 := 0) (T := TX8) (v := .ref (ad 8 0 1)) S hG (hZ.2.1 (8, 0) (by decide)) rfl inlX8 (by decide) rfl zw_188 rfl dX8_lightAt_63 ?_
                  refine lv_iload hx hb dX8_lightAt_66 (lv_at hl 6 rfl) ?_
                  obtain ⟨i16, hi16, hf⟩ := zbi hf
                  refine z_iald (c0 := 8) (i0 := 0) (k0 := 0) S hG (hZ.2.1 (8, 0) (by decide)) (by decide) rfl hi16 dX8_lightAt_68 ?_
                  refine z_mmax (v := (zmax y3l11 (zA σ 8 0 0 i16))) S hl zw_880 zw_90 zw_91 zw_92 (Nat.le_of_ble_eq_true rfl) (Nat.le_of_ble_eq_true rfl) (Nat.le_of_ble_eq_true rfl) (Nat.zero_le _) (Nat.zero_le _) rfl dX8_lightAt_69 ?_
                  refine lv_istore_n (lv' := [(3, .int (zmax y3l11 (zA σ 8 0 0 i16))), (6, .int (x2 + (zBES i11))), (0, .ref (ad 8 0 0)), (1, .ref (ad 7 x1 0)), (2, .int x2), (4, .ref (ad 7 x1 3)), (5, .int y5l11)]) hx hb dX8_lightAt_72 rfl hl (by decide) rfl (fun ls hl => ?_)
                  exact KJ73_11 (zmax y3l11 (zA σ 8 0 0 i16)) y5l11 H locs ls hG hS (lv_sub hl [2, 3, 4, 0, 5, 6] rfl) hf
    exact KL11 zFu 0 0 H locs ls hG hS (lv_sub hl [3, 4, 5, 1, 2, 0] rfl) hw11
  exact hK0 _ _ ls hG hS hl hf
set_option maxRecDepth 100000 in
set_option maxHeartbeats 4000000 in
theorem c_X8_lightOf (l : Launch) (D : va_G) (aC : Nat → ClassId) (zs : Nat × Nat) (A : Nat → Prop) (nl : zNL) (ad : Nat → Nat → Nat → Nat) (σ : zM) (x1 : Nat) (x2 : Int32) (r : Int32) (h_x1 : zin nl 7 x1) (hf : f_X8_lightOf σ x1 x2 = some r) : Met l yX8_lightOf (Cond.code yX8_lightOf cX8_lightOf 5 (some .int) :: wsL_law) ({ frames := 2, cells := 0, slots := 0, locals := 47 } : Room) (zP D aC zs zfX A nl ad σ [.ref (ad 8 0 0), .ref (ad 7 x1 0), .int x2]) (zQ (some (.int r)) (fun t => zG D aC A nl ad σ t t.heap ∧ True) A) 0 0 A := by
  refine Met.ofW (cc := cX8_lightOf) (maxL := 5) (ret := (some .int)) (by decide) rfl ?_
  intro p e s m args below meth c s₁ B hml hv
  obtain ⟨rfl, hG, hZ⟩ := hv
  have hx := B.exec
  have hb := B.bytes
  have hr := B.returns
  have hts : ∀ w ∈ wsL_law, w.before ([.ref (ad 8 0 0), .ref (ad 7 x1 0), .int x2] : List Value).toArray s = true := fun w h => (atoms_spec B.pre) w (List.mem_cons_of_mem _ h)
  have hown : s.vm.findClass RX8 = some m.cls := findClass_of_methodNamed B.named
  have hlocks := B.notSynchronized
  have S : zS p m c cX8_lightOf 5 s ([.ref (ad 8 0 0), .ref (ad 7 x1 0), .int x2] : List Value).toArray RX8 := ⟨hx, hb, hml, hown, hts⟩
  have hS : va_S A s.heap s.heap [] := va_S.rf
  have hl := lv_entry ([.ref (ad 8 0 0), .ref (ad 7 x1 0), .int x2]) (n := 5) (Nat.le_of_ble_eq_true rfl)
  rw [lg_entry_eq]
  generalize (lg_sl ([.ref (ad 8 0 0), .ref (ad 7 x1 0), .int x2]) ++ List.replicate (5 - (lg_sl ([.ref (ad 8 0 0), .ref (ad 7 x1 0), .int x2])).length) Slot.unset).toArray = ls at hl ⊢
  have hl : lv_has ls 5 [(0, .ref (ad 8 0 0)), (1, .ref (ad 7 x1 0)), (2, .int x2)] := hl
  generalize hargs : ([.ref (ad 8 0 0), .ref (ad 7 x1 0), .int x2] : List Value).toArray = args at S hts ⊢
  clear hargs
  have hK0 : ∀ (H : Heap) (locs : List Loc) (ls : Array Slot), zG D aC A nl ad σ s H → va_S A s.heap H locs → lv_has ls 5 [(0, .ref (ad 8 0 0)), (1, .ref (ad 7 x1 0)), (2, .int x2)] → f_X8_lightOf σ x1 x2 = some r → zWk p l e ({ frames := 2, cells := 0, slots := 0, locals := 47 } : Room) s m args below meth c A (some (.int r)) (fun t => zG D aC A nl ad σ t t.heap ∧ True) H locs (F0 m 0 ls []) := by
    intro H locs ls hG hS hl hf
    unfold f_X8_lightOf at hf
    refine lv_iconst (v := 0) hx hb dX8_lightOf_0 (by decide) ?_
    refine lv_istore_n (lv' := [(3, .int 0), (0, .ref (ad 8 0 0)), (1, .ref (ad 7 x1 0)), (2, .int x2)]) hx hb dX8_lightOf_1 rfl hl (by decide) rfl (fun ls hl => ?_)
    refine lv_bipush (v := 13) hx hb dX8_lightOf_2 (by decide) ?_
    refine lv_istore (lv' := [(4, .int 13), (3, .int 0), (0, .ref (ad 8 0 0)), (1, .ref (ad 7 x1 0)), (2, .int x2)]) hx hb dX8_lightOf_4 hl (by decide) rfl (fun ls hl => ?_)
    obtain ⟨t6, hw6, hfo6⟩ := zbi hf
    have KL6 : ∀ (n : Nat) (y3l6 : Int32) (y4l6 : Int32) (H : Heap) (locs : List Loc) (ls : Array Slot), zG D aC A nl ad σ s H → va_S A s.heap H locs → lv_has ls 5 [(0, .ref (ad 8 0 0)), (1, .ref (ad 7 x1 0)), (2, .int x2), (3, .int y3l6), (4, .int y4l6)] → zwh (fun (q : (Int32 × Int32)) => f_X8_lightOf_L6 σ x1 x2 q.1 q.2) n (y3l6, y4l6) = some t6 → zWk p l e ({ frames := 2, cells := 0, slots := 0, locals := 47 } : Room) s m args below meth c A (some (.int r)) (fun t => zG D aC A nl ad σ t t.heap ∧ True) H locs (F0 m 6 ls []) := by
      intro n
      induction n with
      | zero =>
        intro y3l6 y4l6 H locs ls hG hS hl hw
        exact (zwh_0 hw).elim
      | succ n ih6 =>
        intro y3l6 y4l6 H locs ls hG hS hl hw
        obtain ⟨rr6, hf, hk6⟩ := zwh_u hw
        have hf : f_X8_lightOf_L6 σ x1 x2 y3l6 y4l6 = some rr6 := hf
        unfold f_X8_lightOf_L6 at hf
        have KJ36_6 : ∀ (y3b36 : Int32) (y4b36 : Int32)   (H : Heap) (locs : List Loc) (ls : Array Slot), zG D aC A nl ad σ s H → va_S A s.heap H locs → lv_has ls 5 [(0, .ref (ad 8 0 0)), (1, .ref (ad 7 x1 0)), (2, .int x2), (3, .int y3b36), (4, .int y4b36)] → (f_X8_lightOf_B36_6 σ x1 x2 y3b36 y4b36) = some rr6 → zWk p l e ({ frames := 2, cells := 0, slots := 0, locals := 47 } : Room) s m args below meth c A (some (.int r)) (fun t => zG D aC A nl ad σ t t.heap ∧ True) H locs (F0 m 36 ls []) := by
          intro y3b36 y4b36   H locs ls hG hS hl hf
          unfold f_X8_lightOf_B36_6 at hf
          refine lv_iinc (v := (y4b36 + 1)) (lv' := [(4, .int (y4b36 + 1)), (0, .ref (ad 8 0 0)), (1, .ref (ad 7 x1 0)), (2, .int x2), (3, .int y3b36)]) hx hb dX8_lightOf_36 hl (k := 4) rfl rfl (by decide) rfl (fun ls hl => ?_)
          refine lv_goto (tgt := 6) hx hb dX8_lightOf_39 (by decide) ?_
          cases hf
          exact ih6 y3b36 (y4b36 + 1) H locs ls hG hS (lv_sub hl [1, 2, 3, 4, 0] rfl) hk6
        refine lv_iload hx hb dX8_lightOf_6 (lv_at hl 4 rfl) ?_
        refine lv_sipush (v := 227) hx hb dX8_lightOf_8 (by decide) ?_
        refine lv_icmp_ge (tgt := 42) hx hb dX8_lightOf_11 (by decide) (fun c7 => ?_) (fun c7 => ?_)
        · have hf := zif_p c7 hf
          cases hf
          have hk6 : (y3l6 : Int32) = t6 := hk6
          have hf := hfo6
          rw [← hk6] at hf
          have hf : (some y3l6) = some r := hf
          refine lv_iload_n hx hb dX8_lightOf_42 rfl (lv_at hl 3 rfl) ?_
          have hq := (Option.some.inj hf)
          subst hq
          exact z_iret S hG hS hlocks trivial hr dX8_lightOf_43
        · have hf := zif_n c7 hf
          refine lv_aload_n hx hb dX8_lightOf_14 rfl (lv_at hl 1 rfl) ?_
          refine lv_iload hx hb dX8_lightOf_15 (lv_at hl 4 rfl) ?_
          obtain ⟨r8, er8, hf⟩ := zbi hf
          refine z_callV (n := 1) (rest := []) (st1 := [.int r8]) (c0 := 7) (i0 := x1) h_x1 (by rfl) S hG hS hZ (fun _ _ h => h) (c_X7_thingAt l D aC zs A nl ad σ x1 y4l6 r8 h_x1 er8) zw_881 zw_830 zw_831 zw_783 zw_832 (by decide +kernel) ⟨rfl, rfl⟩ ⟨(Nat.le_of_ble_eq_true rfl), (Nat.le_of_ble_eq_true rfl)⟩ hl.1 rfl (by rfl) (by rfl) (Nat.le_of_ble_eq_true rfl) dX8_lightOf_17 ⟨Nat.zero_le _, Nat.zero_le _⟩ (fun H locs hz9 hG hS => ?_)
          refine lv_iload_n hx hb dX8_lightOf_20 rfl (lv_at hl 2 rfl) ?_
          refine lv_icmp_ne (tgt := 36) hx hb dX8_lightOf_21 (by decide) (fun c10 => ?_) (fun c10 => ?_)
          · have hf := zif_n c10 hf
            exact KJ36_6 y3l6 y4l6 H locs ls hG hS (lv_sub hl [0, 1, 2, 3, 4] rfl) hf
          · have hf := zif_p c10 hf
            refine lv_iload_n hx hb dX8_lightOf_24 rfl (lv_at hl 3 rfl) ?_
            refine lv_aload_n hx hb dX8_lightOf_25 rfl (lv_at hl 0 rfl) ?_
            refine lv_aload_n hx hb dX8_lightOf_26 rfl (lv_at hl 1 rfl) ?_
            refine lv_iload hx hb dX8_lightOf_27 (lv_at hl 4 rfl) ?_
            obtain ⟨r11, er11, hf⟩ := zbi hf
            refine z_callV (n := 2) (rest := [.int y3l6]) (st1 := [.int r11, .int y3l6]) (c0 := 8) (i0 := 0) (hZ.2.1 (8, 0) (by decide)) (by rfl) S hG hS hZ (fun _ _ h => h) (c_X8_lightAt l D aC zs A nl ad σ x1 y4l6 r11 h_x1 er11) zw_882 zw_883 zw_884 zw_31 zw_885 (by decide +kernel) ⟨rfl, rfl⟩ ⟨(Nat.le_of_ble_eq_true rfl), (Nat.le_of_ble_eq_true rfl)⟩ hl.1 rfl (by rfl) (by rfl) (Nat.le_of_ble_eq_true rfl) dX8_lightOf_29 ⟨Nat.zero_le _, Nat.zero_le _⟩ (fun H locs hz12 hG hS => ?_)
            refine z_mmax (v := (zmax y3l6 r11)) S hl zw_880 zw_90 zw_91 zw_92 (Nat.le_of_ble_eq_true rfl) (Nat.le_of_ble_eq_true rfl) (Nat.le_of_ble_eq_true rfl) (Nat.zero_le _) (Nat.zero_le _) rfl dX8_lightOf_32 ?_
            refine lv_istore_n (lv' := [(3, .int (zmax y3l6 r11)), (0, .ref (ad 8 0 0)), (1, .ref (ad 7 x1 0)), (2, .int x2), (4, .int y4l6)]) hx hb dX8_lightOf_35 rfl hl (by decide) rfl (fun ls hl => ?_)
            exact KJ36_6 (zmax y3l6 r11) y4l6 H locs ls hG hS (lv_sub hl [1, 2, 3, 0, 4] rfl) hf
    exact KL6 zFu 0 13 H locs ls hG hS (lv_sub hl [2, 3, 4, 1, 0] rfl) hw6
  exact hK0 _ _ ls hG hS hl hf
set_option maxRecDepth 100000 in
set_option maxHeartbeats 4000000 in
theorem c_X8_darkRooms (l : Launch) (D : va_G) (aC : Nat → ClassId) (zs : Nat × Nat) (A : Nat → Prop) (nl : zNL) (ad : Nat → Nat → Nat → Nat) (σ : zM) (x1 : Nat) (r : Int32) (h_x1 : zin nl 7 x1) (hf : f_X8_darkRooms σ x1 = some r) : Met l yX8_darkRooms (Cond.code yX8_darkRooms cX8_darkRooms 5 (some .int) :: wsL_law) ({ frames := 2, cells := 0, slots := 0, locals := 47 } : Room) (zP D aC zs zfX A nl ad σ [.ref (ad 8 0 0), .ref (ad 7 x1 0)]) (zQ (some (.int r)) (fun t => zG D aC A nl ad σ t t.heap ∧ True) A) 0 0 A := by
  refine Met.ofW (cc := cX8_darkRooms) (maxL := 5) (ret := (some .int)) (by decide) rfl ?_
  intro p e s m args below meth c s₁ B hml hv
  obtain ⟨rfl, hG, hZ⟩ := hv
  have hx := B.exec
  have hb := B.bytes
  have hr := B.returns
  have hts : ∀ w ∈ wsL_law, w.before ([.ref (ad 8 0 0), .ref (ad 7 x1 0)] : List Value).toArray s = true := fun w h => (atoms_spec B.pre) w (List.mem_cons_of_mem _ h)
  have hown : s.vm.findClass RX8 = some m.cls := findClass_of_methodNamed B.named
  have hlocks := B.notSynchronized
  have S : zS p m c cX8_darkRooms 5 s ([.ref (ad 8 0 0), .ref (ad 7 x1 0)] : List Value).toArray RX8 := ⟨hx, hb, hml, hown, hts⟩
  have hS : va_S A s.heap s.heap [] := va_S.rf
  have hl := lv_entry ([.ref (ad 8 0 0), .ref (ad 7 x1 0)]) (n := 5) (Nat.le_of_ble_eq_true rfl)
  rw [lg_entry_eq]
  generalize (lg_sl ([.ref (ad 8 0 0), .ref (ad 7 x1 0)]) ++ List.replicate (5 - (lg_sl ([.ref (ad 8 0 0), .ref (ad 7 x1 0)])).length) Slot.unset).toArray = ls at hl ⊢
  have hl : lv_has ls 5 [(0, .ref (ad 8 0 0)), (1, .ref (ad 7 x1 0))] := hl
  generalize hargs : ([.ref (ad 8 0 0), .ref (ad 7 x1 0)] : List Value).toArray = args at S hts ⊢
  clear hargs
  have KJ63 : ∀ (y2b63 : Int32)   (H : Heap) (locs : List Loc) (ls : Array Slot), zG D aC A nl ad σ s H → va_S A s.heap H locs → lv_has ls 5 [(0, .ref (ad 8 0 0)), (1, .ref (ad 7 x1 0)), (2, .int y2b63)] → (f_X8_darkRooms_B63 σ x1 y2b63) = some r → zWk p l e ({ frames := 2, cells := 0, slots := 0, locals := 47 } : Room) s m args below meth c A (some (.int r)) (fun t => zG D aC A nl ad σ t t.heap ∧ True) H locs (F0 m 63 ls []) := by
    intro y2b63   H locs ls hG hS hl hf
    unfold f_X8_darkRooms_B63 at hf
    refine lv_aload_n hx hb dX8_darkRooms_63 rfl (lv_at hl 1 rfl) ?_
    obtain ⟨r2, er2, hf⟩ := zbi hf
    refine z_callV (n := 0) (rest := []) (st1 := [.int r2]) (c0 := 7) (i0 := x1) h_x1 (by rfl) S hG hS hZ (fun _ _ h => h) (c_X7_roomsWithCells l D aC zs A nl ad σ x1 r2 h_x1 er2) zw_1012 zw_1013 zw_1014 zw_783 zw_1015 (by decide +kernel) ⟨rfl, rfl⟩ ⟨(Nat.le_of_ble_eq_true rfl), (Nat.le_of_ble_eq_true rfl)⟩ hl.1 rfl (by rfl) (by rfl) (Nat.le_of_ble_eq_true rfl) dX8_darkRooms_64 ⟨Nat.zero_le _, Nat.zero_le _⟩ (fun H locs hz3 hG hS => ?_)
    refine lv_iload_n hx hb dX8_darkRooms_67 rfl (lv_at hl 2 rfl) ?_
    refine z_callS (n := 1) (rest := [.int r2]) (st1 := [.int (f_J6_bitCount_0f7a4 y2b63), .int r2]) S hG hS hZ (fun _ _ h => h) (c_J6_bitCount_0f7a4 l D aC zs zfX A nl ad σ y2b63 (f_J6_bitCount_0f7a4 y2b63) rfl) zw_1020 zw_1021 zw_1022 zw_1023 (by decide +kernel) ⟨rfl, rfl⟩ ⟨(Nat.le_of_ble_eq_true rfl), (Nat.le_of_ble_eq_true rfl)⟩ hl.1 rfl (by rfl) (by rfl) (Nat.le_of_ble_eq_true rfl) dX8_darkRooms_68 ⟨Nat.zero_le _, Nat.zero_le _⟩ (fun H locs hz4 hG hS => ?_)
    refine lv_isub hx hb dX8_darkRooms_71 ?_
    have hq := (Option.some.inj hf)
    subst hq
    exact z_iret S hG hS hlocks trivial hr dX8_darkRooms_72
  have hK0 : ∀ (H : Heap) (locs : List Loc) (ls : Array Slot), zG D aC A nl ad σ s H → va_S A s.heap H locs → lv_has ls 5 [(0, .ref (ad 8 0 0)), (1, .ref (ad 7 x1 0))] → f_X8_darkRooms σ x1 = some r → zWk p l e ({ frames := 2, cells := 0, slots := 0, locals := 47 } : Room) s m args below meth c A (some (.int r)) (fun t => zG D aC A nl ad σ t t.heap ∧ True) H locs (F0 m 0 ls []) := by
    intro H locs ls hG hS hl hf
    unfold f_X8_darkRooms at hf
    refine lv_iconst (v := 0) hx hb dX8_darkRooms_0 (by decide) ?_
    refine lv_istore_n (lv' := [(2, .int 0), (0, .ref (ad 8 0 0)), (1, .ref (ad 7 x1 0))]) hx hb dX8_darkRooms_1 rfl hl (by decide) rfl (fun ls hl => ?_)
    refine lv_bipush (v := 13) hx hb dX8_darkRooms_2 (by decide) ?_
    refine lv_istore_n (lv' := [(3, .int 13), (2, .int 0), (0, .ref (ad 8 0 0)), (1, .ref (ad 7 x1 0))]) hx hb dX8_darkRooms_4 rfl hl (by decide) rfl (fun ls hl => ?_)
    obtain ⟨t5, hw5, hfo5⟩ := zbi hf
    have KL5 : ∀ (n : Nat) (y2l5 : Int32) (y3l5 : Int32) (H : Heap) (locs : List Loc) (ls : Array Slot), zG D aC A nl ad σ s H → va_S A s.heap H locs → lv_has ls 5 [(0, .ref (ad 8 0 0)), (1, .ref (ad 7 x1 0)), (2, .int y2l5), (3, .int y3l5)] → zwh (fun (q : (Int32 × Int32)) => f_X8_darkRooms_L5 σ x1 q.1 q.2) n (y2l5, y3l5) = some t5 → zWk p l e ({ frames := 2, cells := 0, slots := 0, locals := 47 } : Room) s m args below meth c A (some (.int r)) (fun t => zG D aC A nl ad σ t t.heap ∧ True) H locs (F0 m 5 ls []) := by
      intro n
      induction n with
      | zero =>
        intro y2l5 y3l5 H locs ls hG hS hl hw
        exact (zwh_0 hw).elim
      | succ n ih5 =>
        intro y2l5 y3l5 H locs ls hG hS hl hw
        obtain ⟨rr5, hf, hk5⟩ := zwh_u hw
        have hf : f_X8_darkRooms_L5 σ x1 y2l5 y3l5 = some rr5 := hf
        unfold f_X8_darkRooms_L5 at hf
        have KJ57_5 : ∀ (y2b57 : Int32) (y3b57 : Int32)   (H : Heap) (locs : List Loc) (ls : Array Slot), zG D aC A nl ad σ s H → va_S A s.heap H locs → lv_has ls 5 [(0, .ref (ad 8 0 0)), (1, .ref (ad 7 x1 0)), (2, .int y2b57), (3, .int y3b57)] → (f_X8_darkRooms_B57_5 σ x1 y2b57 y3b57) = some rr5 → zWk p l e ({ frames := 2, cells := 0, slots := 0, locals := 47 } : Room) s m args below meth c A (some (.int r)) (fun t => zG D aC A nl ad σ t t.heap ∧ True) H locs (F0 m 57 ls []) := by
          intro y2b57 y3b57   H locs ls hG hS hl hf
          unfold f_X8_darkRooms_B57_5 at hf
          refine lv_iinc (v := (y3b57 + 1)) (lv' := [(3, .int (y3b57 + 1)), (0, .ref (ad 8 0 0)), (1, .ref (ad 7 x1 0)), (2, .int y2b57)]) hx hb dX8_darkRooms_57 hl (k := 3) rfl rfl (by decide) rfl (fun ls hl => ?_)
          refine lv_goto (tgt := 5) hx hb dX8_darkRooms_60 (by decide) ?_
          cases hf
          exact ih5 y2b57 (y3b57 + 1) H locs ls hG hS (lv_sub hl [1, 2, 3, 0] rfl) hk5
        refine lv_iload_n hx hb dX8_darkRooms_5 rfl (lv_at hl 3 rfl) ?_
        refine lv_sipush (v := 227) hx hb dX8_darkRooms_6 (by decide) ?_
        refine lv_icmp_ge (tgt := 63) hx hb dX8_darkRooms_9 (by decide) (fun c13 => ?_) (fun c13 => ?_)
        · have hf := zif_p c13 hf
          cases hf
          have hk5 : (y2l5 : Int32) = t5 := hk5
          have hf := hfo5
          rw [← hk5] at hf
          have hf : (f_X8_darkRooms_B63 σ x1 y2l5) = some r := hf
          exact KJ63 y2l5 H locs ls hG hS (lv_sub hl [0, 1, 2] rfl) hf
        · have hf := zif_n c13 hf
          refine lv_aload_n hx hb dX8_darkRooms_12 rfl (lv_at hl 1 rfl) ?_
          refine lv_iload_n hx hb dX8_darkRooms_13 rfl (lv_at hl 3 rfl) ?_
          obtain ⟨r14, er14, hf⟩ := zbi hf
          refine z_callV (n := 1) (rest := []) (st1 := [.int r14]) (c0 := 7) (i0 := x1) h_x1 (by rfl) S hG hS hZ (fun _ _ h => h) (c_X7_thingAt l D aC zs A nl ad σ x1 y3l5 r14 h_x1 er14) zw_881 zw_830 zw_831 zw_783 zw_832 (by decide +kernel) ⟨rfl, rfl⟩ ⟨(Nat.le_of_ble_eq_true rfl), (Nat.le_of_ble_eq_true rfl)⟩ hl.1 rfl (by rfl) (by rfl) (Nat.le_of_ble_eq_true rfl) dX8_darkRooms_14 ⟨Nat.zero_le _, Nat.zero_le _⟩ (fun H locs hz15 hG hS => ?_)
          refine lv_istore (lv' := [(4, .int r14), (0, .ref (ad 8 0 0)), (1, .ref (ad 7 x1 0)), (2, .int y2l5), (3, .int y3l5)]) hx hb dX8_darkRooms_17 hl (by decide) rfl (fun ls hl => ?_)
          refine lv_iload hx hb dX8_darkRooms_19 (lv_at hl 0 rfl) ?_
          refine lv_iconst (v := 1) hx hb dX8_darkRooms_21 (by decide) ?_
          refine lv_icmp_lt (tgt := 57) hx hb dX8_darkRooms_22 (by decide) (fun c16 => ?_) (fun c16 => ?_)
          · have hf := zif_p c16 hf
            exact KJ57_5 y2l5 y3l5 H locs ls hG hS (lv_sub hl [1, 2, 3, 4] rfl) hf
          · have hf := zif_n c16 hf
            refine lv_iload hx hb dX8_darkRooms_25 (lv_at hl 0 rfl) ?_
            refine lv_bipush (v := 12) hx hb dX8_darkRooms_27 (by decide) ?_
            refine lv_icmp_gt (tgt := 57) hx hb dX8_darkRooms_29 (by decide) (fun c17 => ?_) (fun c17 => ?_)
            · have hf := zif_p c17 hf
              exact KJ57_5 y2l5 y3l5 H locs ls hG hS (lv_sub hl [1, 2, 3, 4] rfl) hf
            · have hf := zif_n c17 hf
              refine lv_iload_n hx hb dX8_darkRooms_32 rfl (lv_at hl 3 rfl) ?_
              refine lv_iload hx hb dX8_darkRooms_33 (lv_at hl 0 rfl) ?_
              refine lv_iushr (v := (zushr y2l5 r14)) hx hb dX8_darkRooms_35 rfl ?_
              refine lv_iconst (v := 1) hx hb dX8_darkRooms_36 (by decide) ?_
              refine lv_iand hx hb dX8_darkRooms_37 ?_
              refine lv_if_ne (tgt := 57) hx hb dX8_darkRooms_38 (by decide) (fun c18 => ?_) (fun c18 => ?_)
              · have hf := zif_n c18 hf
                exact KJ57_5 y2l5 y3l5 H locs ls hG hS (lv_sub hl [1, 2, 3, 4] rfl) hf
              · have hf := zif_p c18 hf
                refine lv_aload_n hx hb dX8_darkRooms_41 rfl (lv_at hl 1 rfl) ?_
                refine lv_aload_n hx hb dX8_darkRooms_42 rfl (lv_at hl 2 rfl) ?_
                refine lv_iload_n hx hb dX8_darkRooms_43 rfl (lv_at hl 4 rfl) ?_
                obtain ⟨r19, er19, hf⟩ := zbi hf
                refine z_callV (n := 2) (rest := []) (st1 := [.int r19]) (c0 := 8) (i0 := 0) (hZ.2.1 (8, 0) (by decide)) (by rfl) S hG hS hZ (fun _ _ h => h) (c_X8_lightAt l D aC zs A nl ad σ x1 y3l5 r19 h_x1 er19) zw_882 zw_883 zw_884 zw_31 zw_885 (by decide +kernel) ⟨rfl, rfl⟩ ⟨(Nat.le_of_ble_eq_true rfl), (Nat.le_of_ble_eq_true rfl)⟩ hl.1 rfl (by rfl) (by rfl) (Nat.le_of_ble_eq_true rfl) dX8_darkRooms_44 ⟨Nat.zero_le _, Nat.zero_le _⟩ (fun H locs hz20 hG hS => ?_)
                refine lv_if_le (tgt := 57) hx hb dX8_darkRooms_47 (by decide) (fun c21 => ?_) (fun c21 => ?_)
                · have hf := zif_p c21 hf
                  exact KJ57_5 y2l5 y3l5 H locs ls hG hS (lv_sub hl [1, 2, 3, 4] rfl) hf
                · have hf := zif_n c21 hf
                  refine lv_iload_n hx hb dX8_darkRooms_50 rfl (lv_at hl 3 rfl) ?_
                  refine lv_iconst (v := 1) hx hb dX8_darkRooms_51 (by decide) ?_
                  refine lv_iload hx hb dX8_darkRooms_52 (lv_at hl 0 rfl) ?_
                  refine lv_ishl hx hb dX8_darkRooms_54 ?_
                  refine lv_ior hx hb dX8_darkRooms_55 ?_
                  refine lv_istore_n (lv' := [(2, .int (y2l5 ||| (1 <<< (r14 &&& 31)))), (4, .int r14), (0, .ref (ad 8 0 0)), (1, .ref (ad 7 x1 0)), (3, .int y3l5)]) hx hb dX8_darkRooms_56 rfl hl (by decide) rfl (fun ls hl => ?_)
                  exact KJ57_5 (y2l5 ||| (1 <<< (r14 &&& 31))) y3l5 H locs ls hG hS (lv_sub hl [2, 3, 0, 4] rfl) hf
    exact KL5 zFu 0 13 H locs ls hG hS (lv_sub hl [2, 3, 1, 0] rfl) hw5
  exact hK0 _ _ ls hG hS hl hf
set_option maxRecDepth 100000 in
set_option maxHeartbeats 4000000 in
theorem c_X8_stepFrom (l : Launch) (D : va_G) (aC : Nat → ClassId) (zs : Nat × Nat) (A : Nat → Prop) (nl : zNL) (ad : Nat → Nat → Nat → Nat) (σ : zM) (x0 : Nat) (x1 : Int32) (x2 : Int32) (r : Int32) (h_x0 : zin nl 7 x0) (hf : f_X8_stepFrom σ x0 x1 x2 = some r) : Met l yX8_stepFrom (Cond.code yX8_stepFrom cX8_stepFrom 6 (some .int) :: wsL_law) ({ frames := 1, cells := 0, slots := 0, locals := 21 } : Room) (zP D aC zs zfX A nl ad σ [.ref (ad 7 x0 0), .int x1, .int x2]) (zQ (some (.int r)) (fun t => zG D aC A nl ad σ t t.heap ∧ True) A) 0 0 A := by
  refine Met.ofW (cc := cX8_stepFrom) (maxL := 6) (ret := (some .int)) (by decide) rfl ?_
  intro p e s m args below meth c s₁ B hml hv
  obtain ⟨rfl, hG, hZ⟩ := hv
  have hx := B.exec
  have hb := B.bytes
  have hr := B.returns
  have hts : ∀ w ∈ wsL_law, w.before ([.ref (ad 7 x0 0), .int x1, .int x2] : List Value).toArray s = true := fun w h => (atoms_spec B.pre) w (List.mem_cons_of_mem _ h)
  have hown : s.vm.findClass RX8 = some m.cls := findClass_of_methodNamed B.named
  have hlocks := B.notSynchronized
  have S : zS p m c cX8_stepFrom 6 s ([.ref (ad 7 x0 0), .int x1, .int x2] : List Value).toArray RX8 := ⟨hx, hb, hml, hown, hts⟩
  have hS : va_S A s.heap s.heap [] := va_S.rf
  have hl := lv_entry ([.ref (ad 7 x0 0), .int x1, .int x2]) (n := 6) (Nat.le_of_ble_eq_true rfl)
  rw [lg_entry_eq]
  generalize (lg_sl ([.ref (ad 7 x0 0), .int x1, .int x2]) ++ List.replicate (6 - (lg_sl ([.ref (ad 7 x0 0), .int x1, .int x2])).length) Slot.unset).toArray = ls at hl ⊢
  have hl : lv_has ls 6 [(0, .ref (ad 7 x0 0)), (1, .int x1), (2, .int x2)] := hl
  generalize hargs : ([.ref (ad 7 x0 0), .int x1, .int x2] : List Value).toArray = args at S hts ⊢
  clear hargs
  have KJ108 : ∀ (y4b108 : Int32)   (H : Heap) (locs : List Loc) (ls : Array Slot), zG D aC A nl ad σ s H → va_S A s.heap H locs → lv_has ls 6 [(0, .ref (ad 7 x0 0)), (1, .int x1), (2, .int x2), (4, .int y4b108)] → (f_X8_stepFrom_B108 σ x0 x1 x2 y4b108) = some r → zWk p l e ({ frames := 1, cells := 0, slots := 0, locals := 21 } : Room) s m args below meth c A (some (.int r)) (fun t => zG D aC A nl ad σ t t.heap ∧ True) H locs (F0 m 108 ls []) := by
    intro y4b108   H locs ls hG hS hl hf
    unfold f_X8_stepFrom_B108 at hf
    refine lv_iload hx hb dX8_stepFrom_108 (lv_at hl 3 rfl) ?_
    refine lv_goto (tgt := 114) hx hb dX8_stepFrom_110 (by decide) ?_
    have hq := (Option.some.inj hf)
    subst hq
    exact z_iret S hG hS hlocks trivial hr dX8_stepFrom_114
  have KJ18 : ∀ (y3b18 : Int32)   (H : Heap) (locs : List Loc) (ls : Array Slot), zG D aC A nl ad σ s H → va_S A s.heap H locs → lv_has ls 6 [(0, .ref (ad 7 x0 0)), (1, .int x1), (2, .int x2), (3, .int y3b18)] → (f_X8_stepFrom_B18 σ x0 x1 x2 y3b18) = some r → zWk p l e ({ frames := 1, cells := 0, slots := 0, locals := 21 } : Room) s m args below meth c A (some (.int r)) (fun t => zG D aC A nl ad σ t t.heap ∧ True) H locs (F0 m 18 ls []) := by
    intro y3b18   H locs ls hG hS hl hf
    unfold f_X8_stepFrom_B18 at hf
    refine lv_iload_n hx hb dX8_stepFrom_18 rfl (lv_at hl 1 rfl) ?_
    refine lv_bipush (v := 120) hx hb dX8_stepFrom_19 (by decide) ?_
    have Kv6 : ∀ (v6 : Int32) (ls : Array Slot), lv_has ls 6 [(0, .ref (ad 7 x0 0)), (1, .int x1), (2, .int x2), (3, .int y3b18)] → (if y3b18 = 14 then ((f_X7_thingAt σ x0 v6).bind fun r12 => if r12 = 14 then (some v6) else (some (-1))) else (some (-1))) = some r → zWk p l e ({ frames := 1, cells := 0, slots := 0, locals := 21 } : Room) s m args below meth c A (some (.int r)) (fun t => zG D aC A nl ad σ t t.heap ∧ True) H locs (F0 m 35 ls [.int v6]) := by
      intro v6 ls hl hf
      refine lv_istore (lv' := [(4, .int v6), (0, .ref (ad 7 x0 0)), (1, .int x1), (2, .int x2), (3, .int y3b18)]) hx hb dX8_stepFrom_35 hl (by decide) rfl (fun ls hl => ?_)
      refine lv_iload_n hx hb dX8_stepFrom_37 rfl (lv_at hl 4 rfl) ?_
      refine lv_bipush (v := 14) hx hb dX8_stepFrom_38 (by decide) ?_
      refine lv_icmp_ne (tgt := 59) hx hb dX8_stepFrom_40 (by decide) (fun c11 => ?_) (fun c11 => ?_)
      · have hf := zif_n c11 hf
        refine lv_iconst (v := (-1)) hx hb dX8_stepFrom_59 (by decide) ?_
        have hq := (Option.some.inj hf)
        subst hq
        exact z_iret S hG hS hlocks trivial hr dX8_stepFrom_60
      · have hf := zif_p c11 hf
        refine lv_aload_n hx hb dX8_stepFrom_43 rfl (lv_at hl 1 rfl) ?_
        refine lv_iload hx hb dX8_stepFrom_44 (lv_at hl 0 rfl) ?_
        obtain ⟨r12, er12, hf⟩ := zbi hf
        refine z_callV (n := 1) (rest := []) (st1 := [.int r12]) (c0 := 7) (i0 := x0) h_x0 (by rfl) S hG hS hZ (fun _ _ h => h) (c_X7_thingAt l D aC zs A nl ad σ x0 v6 r12 h_x0 er12) zw_881 zw_830 zw_831 zw_783 zw_832 (by decide +kernel) ⟨rfl, rfl⟩ ⟨(Nat.le_of_ble_eq_true rfl), (Nat.le_of_ble_eq_true rfl)⟩ hl.1 rfl (by rfl) (by rfl) (Nat.le_of_ble_eq_true rfl) dX8_stepFrom_46 ⟨Nat.zero_le _, Nat.zero_le _⟩ (fun H locs hz13 hG hS => ?_)
        refine lv_bipush (v := 14) hx hb dX8_stepFrom_49 (by decide) ?_
        refine lv_icmp_ne (tgt := 59) hx hb dX8_stepFrom_51 (by decide) (fun c14 => ?_) (fun c14 => ?_)
        · have hf := zif_n c14 hf
          refine lv_iconst (v := (-1)) hx hb dX8_stepFrom_59 (by decide) ?_
          have hq := (Option.some.inj hf)
          subst hq
          exact z_iret S hG hS hlocks trivial hr dX8_stepFrom_60
        · have hf := zif_p c14 hf
          refine lv_iload hx hb dX8_stepFrom_54 (lv_at hl 0 rfl) ?_
          refine lv_goto (tgt := 60) hx hb dX8_stepFrom_56 (by decide) ?_
          have hq := (Option.some.inj hf)
          subst hq
          exact z_iret S hG hS hlocks trivial hr dX8_stepFrom_60
    refine lv_icmp_ge (tgt := 31) hx hb dX8_stepFrom_21 (by decide) (fun c5 => ?_) (fun c5 => ?_)
    · rw [if_pos c5] at hf
      refine lv_iload_n hx hb dX8_stepFrom_31 rfl (lv_at hl 1 rfl) ?_
      refine lv_bipush (v := 120) hx hb dX8_stepFrom_32 (by decide) ?_
      refine lv_isub hx hb dX8_stepFrom_34 ?_
      exact Kv6 _ ls hl hf
    · rw [if_neg c5] at hf
      refine lv_iload_n hx hb dX8_stepFrom_24 rfl (lv_at hl 1 rfl) ?_
      refine lv_bipush (v := 120) hx hb dX8_stepFrom_25 (by decide) ?_
      refine lv_iadd hx hb dX8_stepFrom_27 ?_
      refine lv_goto (tgt := 35) hx hb dX8_stepFrom_28 (by decide) ?_
      exact Kv6 _ ls hl hf
  have hK0 : ∀ (H : Heap) (locs : List Loc) (ls : Array Slot), zG D aC A nl ad σ s H → va_S A s.heap H locs → lv_has ls 6 [(0, .ref (ad 7 x0 0)), (1, .int x1), (2, .int x2)] → f_X8_stepFrom σ x0 x1 x2 = some r → zWk p l e ({ frames := 1, cells := 0, slots := 0, locals := 21 } : Room) s m args below meth c A (some (.int r)) (fun t => zG D aC A nl ad σ t t.heap ∧ True) H locs (F0 m 0 ls []) := by
    intro H locs ls hG hS hl hf
    unfold f_X8_stepFrom at hf
    refine lv_aload_n hx hb dX8_stepFrom_0 rfl (lv_at hl 0 rfl) ?_
    refine lv_iload_n hx hb dX8_stepFrom_1 rfl (lv_at hl 1 rfl) ?_
    obtain ⟨r1, er1, hf⟩ := zbi hf
    refine z_callV (n := 1) (rest := []) (st1 := [.int r1]) (c0 := 7) (i0 := x0) h_x0 (by rfl) S hG hS hZ (fun _ _ h => h) (c_X7_thingAt l D aC zs A nl ad σ x0 x1 r1 h_x0 er1) zw_881 zw_830 zw_831 zw_783 zw_832 (by decide +kernel) ⟨rfl, rfl⟩ ⟨(Nat.le_of_ble_eq_true rfl), (Nat.le_of_ble_eq_true rfl)⟩ hl.1 rfl (by rfl) (by rfl) (Nat.le_of_ble_eq_true rfl) dX8_stepFrom_2 ⟨Nat.zero_le _, Nat.zero_le _⟩ (fun H locs hz2 hG hS => ?_)
    refine lv_istore_n (lv' := [(3, .int r1), (0, .ref (ad 7 x0 0)), (1, .int x1), (2, .int x2)]) hx hb dX8_stepFrom_5 rfl hl (by decide) rfl (fun ls hl => ?_)
    refine lv_iload_n hx hb dX8_stepFrom_6 rfl (lv_at hl 3 rfl) ?_
    refine lv_if_lt (tgt := 18) hx hb dX8_stepFrom_7 (by decide) (fun c3 => ?_) (fun c3 => ?_)
    · have hf := zif_p c3 hf
      exact KJ18 r1 H locs ls hG hS (lv_sub hl [1, 2, 3, 0] rfl) hf
    · have hf := zif_n c3 hf
      refine lv_iload_n hx hb dX8_stepFrom_10 rfl (lv_at hl 3 rfl) ?_
      refine z_gets (v := .ref zs.2) S hZ.2.2.2.2.1 hS zw_887 dX8_stepFrom_11 ?_
      refine z_tlen (v := 4) S hZ.2.2.2.2.2.1 hS rfl dX8_stepFrom_14 ?_
      refine lv_icmp_lt (tgt := 61) hx hb dX8_stepFrom_15 (by decide) (fun c15 => ?_) (fun c15 => ?_)
      · have hf := zif_p c15 hf
        refine lv_iload_n hx hb dX8_stepFrom_61 rfl (lv_at hl 2 rfl) ?_
        refine z_gets (v := .ref zs.2) S hZ.2.2.2.2.1 hS zw_887 dX8_stepFrom_62 ?_
        refine lv_iload_n hx hb dX8_stepFrom_65 rfl (lv_at hl 3 rfl) ?_
        obtain ⟨i16, hi16, hf⟩ := zbi hf
        refine z_ti S hZ.2.2.2.2.2.1 hS hi16 dX8_stepFrom_66 ?_
        refine lv_iadd hx hb dX8_stepFrom_67 ?_
        refine lv_istore (lv' := [(4, .int (x1 + (zBES i16))), (3, .int r1), (0, .ref (ad 7 x0 0)), (1, .int x1), (2, .int x2)]) hx hb dX8_stepFrom_68 hl (by decide) rfl (fun ls hl => ?_)
        refine lv_aload_n hx hb dX8_stepFrom_70 rfl (lv_at hl 2 rfl) ?_
        refine lv_iload hx hb dX8_stepFrom_71 (lv_at hl 0 rfl) ?_
        obtain ⟨r17, er17, hf⟩ := zbi hf
        refine z_callV (n := 1) (rest := []) (st1 := [.int r17]) (c0 := 7) (i0 := x0) h_x0 (by rfl) S hG hS hZ (fun _ _ h => h) (c_X7_thingAt l D aC zs A nl ad σ x0 (x1 + (zBES i16)) r17 h_x0 er17) zw_881 zw_830 zw_831 zw_783 zw_832 (by decide +kernel) ⟨rfl, rfl⟩ ⟨(Nat.le_of_ble_eq_true rfl), (Nat.le_of_ble_eq_true rfl)⟩ hl.1 rfl (by rfl) (by rfl) (Nat.le_of_ble_eq_true rfl) dX8_stepFrom_73 ⟨Nat.zero_le _, Nat.zero_le _⟩ (fun H locs hz18 hG hS => ?_)
        refine lv_istore (lv' := [(5, .int r17), (4, .int (x1 + (zBES i16))), (3, .int r1), (0, .ref (ad 7 x0 0)), (1, .int x1), (2, .int x2)]) hx hb dX8_stepFrom_76 hl (by decide) rfl (fun ls hl => ?_)
        refine lv_iload_n hx hb dX8_stepFrom_78 rfl (lv_at hl 2 rfl) ?_
        refine lv_if_eq (tgt := 87) hx hb dX8_stepFrom_79 (by decide) (fun c19 => ?_) (fun c19 => ?_)
        · have hf := zif_p c19 hf
          refine lv_iconst (v := (-1)) hx hb dX8_stepFrom_87 (by decide) ?_
          have hq := (Option.some.inj hf)
          subst hq
          exact z_iret S hG hS hlocks trivial hr dX8_stepFrom_88
        · have hf := zif_n c19 hf
          refine lv_iload hx hb dX8_stepFrom_82 (lv_at hl 0 rfl) ?_
          refine lv_if_ne (tgt := 89) hx hb dX8_stepFrom_84 (by decide) (fun c20 => ?_) (fun c20 => ?_)
          · have hf := zif_n c20 hf
            refine lv_iload_n hx hb dX8_stepFrom_89 rfl (lv_at hl 2 rfl) ?_
            refine lv_iload hx hb dX8_stepFrom_90 (lv_at hl 0 rfl) ?_
            refine lv_icmp_eq (tgt := 108) hx hb dX8_stepFrom_92 (by decide) (fun c21 => ?_) (fun c21 => ?_)
            · have hf := zif_p c21 hf
              exact KJ108 (x1 + (zBES i16)) H locs ls hG hS (lv_sub hl [3, 4, 5, 1] rfl) hf
            · have hf := zif_n c21 hf
              refine lv_iload_n hx hb dX8_stepFrom_95 rfl (lv_at hl 2 rfl) ?_
              refine lv_bipush (v := 13) hx hb dX8_stepFrom_96 (by decide) ?_
              refine lv_icmp_ge (tgt := 108) hx hb dX8_stepFrom_98 (by decide) (fun c22 => ?_) (fun c22 => ?_)
              · have hf := zif_p c22 hf
                exact KJ108 (x1 + (zBES i16)) H locs ls hG hS (lv_sub hl [3, 4, 5, 1] rfl) hf
              · have hf := zif_n c22 hf
                refine lv_iload hx hb dX8_stepFrom_101 (lv_at hl 0 rfl) ?_
                refine lv_bipush (v := 13) hx hb dX8_stepFrom_103 (by decide) ?_
                refine lv_icmp_lt (tgt := 113) hx hb dX8_stepFrom_105 (by decide) (fun c23 => ?_) (fun c23 => ?_)
                · have hf := zif_p c23 hf
                  refine lv_iconst (v := (-1)) hx hb dX8_stepFrom_113 (by decide) ?_
                  have hq := (Option.some.inj hf)
                  subst hq
                  exact z_iret S hG hS hlocks trivial hr dX8_stepFrom_114
                · have hf := zif_n c23 hf
                  exact KJ108 (x1 + (zBES i16)) H locs ls hG hS (lv_sub hl [3, 4, 5, 1] rfl) hf
          · have hf := zif_p c20 hf
            refine lv_iconst (v := (-1)) hx hb dX8_stepFrom_87 (by decide) ?_
            have hq := (Option.some.inj hf)
            subst hq
            exact z_iret S hG hS hlocks trivial hr dX8_stepFrom_88
      · have hf := zif_n c15 hf
        exact KJ18 r1 H locs ls hG hS (lv_sub hl [1, 2, 3, 0] rfl) hf
  exact hK0 _ _ ls hG hS hl hf
set_option maxRecDepth 100000 in
set_option maxHeartbeats 4000000 in
theorem c_X8_walk (l : Launch) (D : va_G) (aC : Nat → ClassId) (zs : Nat × Nat) (A : Nat → Prop) (nl : zNL) (ad : Nat → Nat → Nat → Nat) (σ : zM) (x1 : Nat) (x2 : Int32) (x3 : Int32) (x4 : Int32) (r : Int32) (σ' : zM) (h_x1 : zin nl 7 x1) (hf : f_X8_walk σ x1 x2 x3 x4 = some (r, σ')) : Met l yX8_walk (Cond.code yX8_walk cX8_walk 11 (some .int) :: wsL_law) ({ frames := 2, cells := 0, slots := 0, locals := 46 } : Room) (zP D aC zs zfX A nl ad σ [.ref (ad 8 0 0), .ref (ad 7 x1 0), .int x2, .int x3, .int x4]) (zQ (some (.int r)) (fun t => zG D aC A nl ad σ' t t.heap ∧ True) A) 0 0 A := by
  refine Met.ofW (cc := cX8_walk) (maxL := 11) (ret := (some .int)) (by decide) rfl ?_
  intro p e s m args below meth c s₁ B hml hv
  obtain ⟨rfl, hG, hZ⟩ := hv
  have hx := B.exec
  have hb := B.bytes
  have hr := B.returns
  have hts : ∀ w ∈ wsL_law, w.before ([.ref (ad 8 0 0), .ref (ad 7 x1 0), .int x2, .int x3, .int x4] : List Value).toArray s = true := fun w h => (atoms_spec B.pre) w (List.mem_cons_of_mem _ h)
  have hown : s.vm.findClass RX8 = some m.cls := findClass_of_methodNamed B.named
  have hlocks := B.notSynchronized
  have S : zS p m c cX8_walk 11 s ([.ref (ad 8 0 0), .ref (ad 7 x1 0), .int x2, .int x3, .int x4] : List Value).toArray RX8 := ⟨hx, hb, hml, hown, hts⟩
  have hS : va_S A s.heap s.heap [] := va_S.rf
  have hl := lv_entry ([.ref (ad 8 0 0), .ref (ad 7 x1 0), .int x2, .int x3, .int x4]) (n := 11) (Nat.le_of_ble_eq_true rfl)
  rw [lg_entry_eq]
  generalize (lg_sl ([.ref (ad 8 0 0), .ref (ad 7 x1 0), .int x2, .int x3, .int x4]) ++ List.replicate (11 - (lg_sl ([.ref (ad 8 0 0), .ref (ad 7 x1 0), .int x2, .int x3, .int x4])).length) Slot.unset).toArray = ls at hl ⊢
  have hl : lv_has ls 11 [(0, .ref (ad 8 0 0)), (1, .ref (ad 7 x1 0)), (2, .int x2), (3, .int x3), (4, .int x4)] := hl
  generalize hargs : ([.ref (ad 8 0 0), .ref (ad 7 x1 0), .int x2, .int x3, .int x4] : List Value).toArray = args at S hts ⊢
  clear hargs
  have KJ128 : ∀ (y8b128 : Int32)  (σb128 : zM) (H : Heap) (locs : List Loc) (ls : Array Slot), zG D aC A nl ad σb128 s H → va_S A s.heap H locs → lv_has ls 11 [(0, .ref (ad 8 0 0)), (1, .ref (ad 7 x1 0)), (2, .int x2), (3, .int x3), (4, .int x4), (8, .int y8b128)] → (f_X8_walk_B128 σb128 x1 x2 x3 x4 y8b128) = some (r, σ') → zWk p l e ({ frames := 2, cells := 0, slots := 0, locals := 46 } : Room) s m args below meth c A (some (.int r)) (fun t => zG D aC A nl ad σ' t t.heap ∧ True) H locs (F0 m 128 ls []) := by
    intro y8b128  σb128 H locs ls hG hS hl hf
    unfold f_X8_walk_B128 at hf
    refine lv_iload hx hb dX8_walk_128 (lv_at hl 5 rfl) ?_
    refine lv_iconst (v := 1) hx hb dX8_walk_130 (by decide) ?_
    refine lv_iadd hx hb dX8_walk_131 ?_
    obtain ⟨hq1, hq2⟩ := Prod.mk.inj (Option.some.inj hf)
    subst hq1
    subst hq2
    exact z_iret S hG hS hlocks trivial hr dX8_walk_132
  have hK0 : ∀ (H : Heap) (locs : List Loc) (ls : Array Slot), zG D aC A nl ad σ s H → va_S A s.heap H locs → lv_has ls 11 [(0, .ref (ad 8 0 0)), (1, .ref (ad 7 x1 0)), (2, .int x2), (3, .int x3), (4, .int x4)] → f_X8_walk σ x1 x2 x3 x4 = some (r, σ') → zWk p l e ({ frames := 2, cells := 0, slots := 0, locals := 46 } : Room) s m args below meth c A (some (.int r)) (fun t => zG D aC A nl ad σ' t t.heap ∧ True) H locs (F0 m 0 ls []) := by
    intro H locs ls hG hS hl hf
    unfold f_X8_walk at hf
    refine lv_iload_n hx hb dX8_walk_0 rfl (lv_at hl 3 rfl) ?_
    refine lv_istore (lv' := [(5, .int x3), (0, .ref (ad 8 0 0)), (1, .ref (ad 7 x1 0)), (2, .int x2), (3, .int x3), (4, .int x4)]) hx hb dX8_walk_1 hl (by decide) rfl (fun ls hl => ?_)
    refine lv_iconst (v := 0) hx hb dX8_walk_3 (by decide) ?_
    refine lv_istore (lv' := [(6, .int 0), (5, .int x3), (0, .ref (ad 8 0 0)), (1, .ref (ad 7 x1 0)), (2, .int x2), (3, .int x3), (4, .int x4)]) hx hb dX8_walk_4 hl (by decide) rfl (fun ls hl => ?_)
    obtain ⟨t6, hw6, hfo6⟩ := zbi hf
    have KL6 : ∀ (n : Nat) (y5l6 : Int32) (y6l6 : Int32) (σl6 : zM) (H : Heap) (locs : List Loc) (ls : Array Slot), zG D aC A nl ad σl6 s H → va_S A s.heap H locs → lv_has ls 11 [(0, .ref (ad 8 0 0)), (1, .ref (ad 7 x1 0)), (2, .int x2), (3, .int x3), (4, .int x4), (5, .int y5l6), (6, .int y6l6)] → zwh (fun (q : (Int32 × Int32 × zM)) => f_X8_walk_L6 x1 x2 x3 x4 q.1 q.2.1 q.2.2) n (y5l6, y6l6, σl6) = some t6 → zWk p l e ({ frames := 2, cells := 0, slots := 0, locals := 46 } : Room) s m args below meth c A (some (.int r)) (fun t => zG D aC A nl ad σ' t t.heap ∧ True) H locs (F0 m 6 ls []) := by
      intro n
      induction n with
      | zero =>
        intro y5l6 y6l6 σl6 H locs ls hG hS hl hw
        exact (zwh_0 hw).elim
      | succ n ih6 =>
        intro y5l6 y6l6 σl6 H locs ls hG hS hl hw
        obtain ⟨rr6, hf, hk6⟩ := zwh_u hw
        have hf : f_X8_walk_L6 x1 x2 x3 x4 y5l6 y6l6 σl6 = some rr6 := hf
        unfold f_X8_walk_L6 at hf
        have KJ172_6 : ∀ (y5b172 : Int32) (y6b172 : Int32)  (σb172_6 : zM) (H : Heap) (locs : List Loc) (ls : Array Slot), zG D aC A nl ad σb172_6 s H → va_S A s.heap H locs → lv_has ls 11 [(0, .ref (ad 8 0 0)), (1, .ref (ad 7 x1 0)), (2, .int x2), (3, .int x3), (4, .int x4), (5, .int y5b172), (6, .int y6b172)] → (f_X8_walk_B172_6 σb172_6 x1 x2 x3 x4 y5b172 y6b172) = some rr6 → zWk p l e ({ frames := 2, cells := 0, slots := 0, locals := 46 } : Room) s m args below meth c A (some (.int r)) (fun t => zG D aC A nl ad σ' t t.heap ∧ True) H locs (F0 m 172 ls []) := by
          intro y5b172 y6b172  σb172_6 H locs ls hG hS hl hf
          unfold f_X8_walk_B172_6 at hf
          refine lv_iinc (v := (y6b172 + 1)) (lv' := [(6, .int (y6b172 + 1)), (0, .ref (ad 8 0 0)), (1, .ref (ad 7 x1 0)), (2, .int x2), (3, .int x3), (4, .int x4), (5, .int y5b172)]) hx hb dX8_walk_172 hl (k := 6) rfl rfl (by decide) rfl (fun ls hl => ?_)
          refine lv_goto (tgt := 6) hx hb dX8_walk_175 (by decide) ?_
          cases hf
          exact ih6 y5b172 (y6b172 + 1) σb172_6 H locs ls hG hS (lv_sub hl [1, 2, 3, 4, 5, 6, 0] rfl) hk6
        have KJ59_6 : ∀ (y5b59 : Int32) (y6b59 : Int32) (y7b59 : Int32) (t0b59 : Int32)  (σb59_6 : zM) (H : Heap) (locs : List Loc) (ls : Array Slot), zG D aC A nl ad σb59_6 s H → va_S A s.heap H locs → lv_has ls 11 [(0, .ref (ad 8 0 0)), (1, .ref (ad 7 x1 0)), (2, .int x2), (3, .int x3), (4, .int x4), (5, .int y5b59), (6, .int y6b59), (7, .int y7b59)] → (f_X8_walk_B59_6 σb59_6 x1 x2 x3 x4 y5b59 y6b59 y7b59 t0b59) = some rr6 → zWk p l e ({ frames := 2, cells := 0, slots := 0, locals := 46 } : Room) s m args below meth c A (some (.int r)) (fun t => zG D aC A nl ad σ' t t.heap ∧ True) H locs (F0 m 59 ls [.int t0b59]) := by
          intro y5b59 y6b59 y7b59 t0b59  σb59_6 H locs ls hG hS hl hf
          unfold f_X8_walk_B59_6 at hf
          refine lv_istore (lv' := [(8, .int t0b59), (0, .ref (ad 8 0 0)), (1, .ref (ad 7 x1 0)), (2, .int x2), (3, .int x3), (4, .int x4), (5, .int y5b59), (6, .int y6b59), (7, .int y7b59)]) hx hb dX8_walk_59 hl (by decide) rfl (fun ls hl => ?_)
          refine lv_iload hx hb dX8_walk_61 (lv_at hl 0 rfl) ?_
          refine lv_iload hx hb dX8_walk_63 (lv_at hl 5 rfl) ?_
          refine lv_icmp_lt (tgt := 70) hx hb dX8_walk_65 (by decide) (fun c42 => ?_) (fun c42 => ?_)
          · have hf := zif_p c42 hf
            refine lv_iconst (v := 0) hx hb dX8_walk_70 (by decide) ?_
            refine lv_istore (lv' := [(9, .int 0), (8, .int t0b59), (0, .ref (ad 8 0 0)), (1, .ref (ad 7 x1 0)), (2, .int x2), (3, .int x3), (4, .int x4), (5, .int y5b59), (6, .int y6b59), (7, .int y7b59)]) hx hb dX8_walk_71 hl (by decide) rfl (fun ls hl => ?_)
            obtain ⟨t73, hw73, hfo73⟩ := zbi hf
            have KL73 : ∀ (n : Nat) (y5l73 : Int32) (y9l73 : Int32) (σl73 : zM) (H : Heap) (locs : List Loc) (ls : Array Slot), zG D aC A nl ad σl73 s H → va_S A s.heap H locs → lv_has ls 11 [(0, .ref (ad 8 0 0)), (1, .ref (ad 7 x1 0)), (2, .int x2), (3, .int x3), (4, .int x4), (6, .int y6b59), (7, .int y7b59), (8, .int t0b59), (5, .int y5l73), (9, .int y9l73)] → zwh (fun (q : (Int32 × Int32 × zM)) => f_X8_walk_L73 x1 x2 x3 x4 y6b59 y7b59 t0b59 q.1 q.2.1 q.2.2) n (y5l73, y9l73, σl73) = some t73 → zWk p l e ({ frames := 2, cells := 0, slots := 0, locals := 46 } : Room) s m args below meth c A (some (.int r)) (fun t => zG D aC A nl ad σ' t t.heap ∧ True) H locs (F0 m 73 ls []) := by
              intro n
              induction n with
              | zero =>
                intro y5l73 y9l73 σl73 H locs ls hG hS hl hw
                exact (zwh_0 hw).elim
              | succ n ih73 =>
                intro y5l73 y9l73 σl73 H locs ls hG hS hl hw
                obtain ⟨rr73, hf, hk73⟩ := zwh_u hw
                have hf : f_X8_walk_L73 x1 x2 x3 x4 y6b59 y7b59 t0b59 y5l73 y9l73 σl73 = some rr73 := hf
                unfold f_X8_walk_L73 at hf
                have KJ166_73 : ∀ (y5b166 : Int32) (y9b166 : Int32)  (σb166_73 : zM) (H : Heap) (locs : List Loc) (ls : Array Slot), zG D aC A nl ad σb166_73 s H → va_S A s.heap H locs → lv_has ls 11 [(0, .ref (ad 8 0 0)), (1, .ref (ad 7 x1 0)), (2, .int x2), (3, .int x3), (4, .int x4), (5, .int y5b166), (6, .int y6b59), (7, .int y7b59), (8, .int t0b59), (9, .int y9b166)] → (f_X8_walk_B166_73 σb166_73 x1 x2 x3 x4 y5b166 y6b59 y7b59 t0b59 y9b166) = some rr73 → zWk p l e ({ frames := 2, cells := 0, slots := 0, locals := 46 } : Room) s m args below meth c A (some (.int r)) (fun t => zG D aC A nl ad σ' t t.heap ∧ True) H locs (F0 m 166 ls []) := by
                  intro y5b166 y9b166  σb166_73 H locs ls hG hS hl hf
                  unfold f_X8_walk_B166_73 at hf
                  refine lv_iinc (v := (y9b166 + 1)) (lv' := [(9, .int (y9b166 + 1)), (0, .ref (ad 8 0 0)), (1, .ref (ad 7 x1 0)), (2, .int x2), (3, .int x3), (4, .int x4), (5, .int y5b166), (6, .int y6b59), (7, .int y7b59), (8, .int t0b59)]) hx hb dX8_walk_166 hl (k := 9) rfl rfl (by decide) rfl (fun ls hl => ?_)
                  refine lv_goto (tgt := 73) hx hb dX8_walk_169 (by decide) ?_
                  cases hf
                  exact ih73 y5b166 (y9b166 + 1) σb166_73 H locs ls hG hS (lv_sub hl [1, 2, 3, 4, 5, 7, 8, 9, 6, 0] rfl) hk73
                refine lv_iload hx hb dX8_walk_73 (lv_at hl 9 rfl) ?_
                refine lv_iconst (v := 4) hx hb dX8_walk_75 (by decide) ?_
                refine lv_icmp_gt (tgt := 172) hx hb dX8_walk_76 (by decide) (fun c58 => ?_) (fun c58 => ?_)
                · have hf := zif_p c58 hf
                  cases hf
                  have hk73 : ((.inr (y5l73, σl73)) : (zM ⊕ (Int32 × zM))) = t73 := hk73
                  have hf := hfo73
                  rw [← hk73] at hf
                  have hf : (f_X8_walk_B172_6 σl73 x1 x2 x3 x4 y5l73 y6b59) = some rr6 := hf
                  exact KJ172_6 y5l73 y6b59 σl73 H locs ls hG hS (lv_sub hl [0, 1, 2, 3, 4, 8, 5] rfl) hf
                · have hf := zif_n c58 hf
                  refine lv_aload_n hx hb dX8_walk_79 rfl (lv_at hl 1 rfl) ?_
                  refine lv_iload hx hb dX8_walk_80 (lv_at hl 6 rfl) ?_
                  refine lv_iload hx hb dX8_walk_82 (lv_at hl 9 rfl) ?_
                  obtain ⟨r59, er59, hf⟩ := zbi hf
                  refine z_callS (n := 3) (rest := []) (st1 := [.int r59]) S hG hS hZ (fun _ _ h => h) (c_X8_stepFrom l D aC zs A nl ad σl73 x1 y7b59 y9l73 r59 h_x1 er59) zw_926 zw_927 zw_31 zw_928 (by decide +kernel) ⟨rfl, rfl⟩ ⟨(Nat.le_of_ble_eq_true rfl), (Nat.le_of_ble_eq_true rfl)⟩ hl.1 rfl (by rfl) (by rfl) (Nat.le_of_ble_eq_true rfl) dX8_walk_84 ⟨Nat.zero_le _, Nat.zero_le _⟩ (fun H locs hz60 hG hS => ?_)
                  refine lv_istore (lv' := [(10, .int r59), (0, .ref (ad 8 0 0)), (1, .ref (ad 7 x1 0)), (2, .int x2), (3, .int x3), (4, .int x4), (6, .int y6b59), (7, .int y7b59), (8, .int t0b59), (5, .int y5l73), (9, .int y9l73)]) hx hb dX8_walk_87 hl (by decide) rfl (fun ls hl => ?_)
                  refine lv_iload hx hb dX8_walk_89 (lv_at hl 0 rfl) ?_
                  refine lv_if_lt (tgt := 166) hx hb dX8_walk_91 (by decide) (fun c61 => ?_) (fun c61 => ?_)
                  · have hf := zif_p c61 hf
                    exact KJ166_73 y5l73 y9l73 σl73 H locs ls hG hS (lv_sub hl [1, 2, 3, 4, 5, 9, 6, 7, 8, 10] rfl) hf
                  · have hf := zif_n c61 hf
                    refine lv_iload hx hb dX8_walk_94 (lv_at hl 0 rfl) ?_
                    refine lv_aload_n hx hb dX8_walk_96 rfl (lv_at hl 1 rfl) ?_
                    refine z_get (c0 := 8) (i0 := 0) (k0 := 2) (T := TX8) (v := .ref (ad 8 0 3)) S hG (hZ.2.1 (8, 0) (by decide)) rfl inlX8 (by decide) rfl zw_190 rfl dX8_walk_97 ?_
                    refine z_alen (c0 := 8) (i0 := 0) (k0 := 2) (n := 4) (v := 240) S hG (hZ.2.1 (8, 0) (by decide)) (by decide) rfl (by decide) (by rfl) dX8_walk_100 ?_
                    refine lv_icmp_ge (tgt := 166) hx hb dX8_walk_101 (by decide) (fun c62 => ?_) (fun c62 => ?_)
                    · have hf := zif_p c62 hf
                      exact KJ166_73 y5l73 y9l73 σl73 H locs ls hG hS (lv_sub hl [1, 2, 3, 4, 5, 9, 6, 7, 8, 10] rfl) hf
                    · have hf := zif_n c62 hf
                      refine lv_aload_n hx hb dX8_walk_104 rfl (lv_at hl 1 rfl) ?_
                      refine z_get (c0 := 8) (i0 := 0) (k0 := 2) (T := TX8) (v := .ref (ad 8 0 3)) S hG (hZ.2.1 (8, 0) (by decide)) rfl inlX8 (by decide) rfl zw_190 rfl dX8_walk_105 ?_
                      refine lv_iload hx hb dX8_walk_108 (lv_at hl 0 rfl) ?_
                      obtain ⟨i63, hi63, hf⟩ := zbi hf
                      refine z_iald (c0 := 8) (i0 := 0) (k0 := 2) S hG (hZ.2.1 (8, 0) (by decide)) (by decide) rfl hi63 dX8_walk_110 ?_
                      refine lv_iconst (v := (-1)) hx hb dX8_walk_111 (by decide) ?_
                      refine lv_icmp_eq (tgt := 118) hx hb dX8_walk_112 (by decide) (fun c64 => ?_) (fun c64 => ?_)
                      · have hf := zif_p c64 hf
                        refine lv_aload_n hx hb dX8_walk_118 rfl (lv_at hl 2 rfl) ?_
                        refine lv_iload hx hb dX8_walk_119 (lv_at hl 0 rfl) ?_
                        obtain ⟨r65, er65, hf⟩ := zbi hf
                        refine z_callV (n := 1) (rest := []) (st1 := [.int r65]) (c0 := 7) (i0 := x1) h_x1 (by rfl) S hG hS hZ (fun _ _ h => h) (c_X7_thingAt l D aC zs A nl ad σl73 x1 r59 r65 h_x1 er65) zw_881 zw_830 zw_831 zw_783 zw_832 (by decide +kernel) ⟨rfl, rfl⟩ ⟨(Nat.le_of_ble_eq_true rfl), (Nat.le_of_ble_eq_true rfl)⟩ hl.1 rfl (by rfl) (by rfl) (Nat.le_of_ble_eq_true rfl) dX8_walk_121 ⟨Nat.zero_le _, Nat.zero_le _⟩ (fun H locs hz66 hG hS => ?_)
                        refine lv_iload_n hx hb dX8_walk_124 rfl (lv_at hl 3 rfl) ?_
                        refine lv_icmp_ne (tgt := 133) hx hb dX8_walk_125 (by decide) (fun c67 => ?_) (fun c67 => ?_)
                        · have hf := zif_n c67 hf
                          refine lv_aload_n hx hb dX8_walk_133 rfl (lv_at hl 1 rfl) ?_
                          refine z_get (c0 := 8) (i0 := 0) (k0 := 2) (T := TX8) (v := .ref (ad 8 0 3)) S hG (hZ.2.1 (8, 0) (by decide)) rfl inlX8 (by decide) rfl zw_190 rfl dX8_walk_134 ?_
                          refine lv_iload hx hb dX8_walk_137 (lv_at hl 0 rfl) ?_
                          refine lv_iload hx hb dX8_walk_139 (lv_at hl 8 rfl) ?_
                          refine lv_iconst (v := 1) hx hb dX8_walk_141 (by decide) ?_
                          refine lv_iadd hx hb dX8_walk_142 ?_
                          obtain ⟨i68, hi68, hf⟩ := zbi hf
                          refine z_iast (c0 := 8) (i0 := 0) (k0 := 2) S hG hS (hZ.2.1 (8, 0) (by decide)) (by decide) rfl hi68 dX8_walk_143 (fun H locs hG hS => ?_)
                          obtain ⟨σ69, eσ69, hf⟩ := zlt_s hf
                          rw [← eσ69] at hG
                          refine lv_iload hx hb dX8_walk_144 (lv_at hl 9 rfl) ?_
                          refine lv_aload_n hx hb dX8_walk_146 rfl (lv_at hl 1 rfl) ?_
                          refine z_get (c0 := 8) (i0 := 0) (k0 := 1) (T := TX8) (v := .ref (ad 8 0 2)) S hG (hZ.2.1 (8, 0) (by decide)) rfl inlX8 (by decide) rfl zw_189 rfl dX8_walk_147 ?_
                          refine z_alen (c0 := 8) (i0 := 0) (k0 := 1) (n := 4) (v := 160) S hG (hZ.2.1 (8, 0) (by decide)) (by decide) rfl (by decide) (by rfl) dX8_walk_150 ?_
                          refine lv_icmp_ge (tgt := 166) hx hb dX8_walk_151 (by decide) (fun c70 => ?_) (fun c70 => ?_)
                          · have hf := zif_p c70 hf
                            exact KJ166_73 y5l73 y9l73 σ69 H locs ls hG hS (lv_sub hl [1, 2, 3, 4, 5, 9, 6, 7, 8, 10] rfl) hf
                          · have hf := zif_n c70 hf
                            refine lv_aload_n hx hb dX8_walk_154 rfl (lv_at hl 1 rfl) ?_
                            refine z_get (c0 := 8) (i0 := 0) (k0 := 1) (T := TX8) (v := .ref (ad 8 0 2)) S hG (hZ.2.1 (8, 0) (by decide)) rfl inlX8 (by decide) rfl zw_189 rfl dX8_walk_155 ?_
                            refine lv_iload hx hb dX8_walk_158 (lv_at hl 9 rfl) ?_
                            refine lv_iload hx hb dX8_walk_160 (lv_at hl 0 rfl) ?_
                            obtain ⟨i71, hi71, hf⟩ := zbi hf
                            refine z_iast (c0 := 8) (i0 := 0) (k0 := 1) S hG hS (hZ.2.1 (8, 0) (by decide)) (by decide) rfl hi71 dX8_walk_162 (fun H locs hG hS => ?_)
                            obtain ⟨σ72, eσ72, hf⟩ := zlt_s hf
                            rw [← eσ72] at hG
                            refine lv_iinc (v := (y5l73 + 1)) (lv' := [(5, .int (y5l73 + 1)), (10, .int r59), (0, .ref (ad 8 0 0)), (1, .ref (ad 7 x1 0)), (2, .int x2), (3, .int x3), (4, .int x4), (6, .int y6b59), (7, .int y7b59), (8, .int t0b59), (9, .int y9l73)]) hx hb dX8_walk_163 hl (k := 9) rfl rfl (by decide) rfl (fun ls hl => ?_)
                            exact KJ166_73 (y5l73 + 1) y9l73 σ72 H locs ls hG hS (lv_sub hl [2, 3, 4, 5, 6, 0, 7, 8, 9, 10] rfl) hf
                        · have hf := zif_p c67 hf
                          cases hf
                          have hk73 : ((.inl σl73) : (zM ⊕ (Int32 × zM))) = t73 := hk73
                          have hf := hfo73
                          rw [← hk73] at hf
                          have hf : (some (.inr (.inr (.inl (t0b59, σl73))))) = some rr6 := hf
                          cases hf
                          have hk6 : ((.inr (.inl (t0b59, σl73))) : (zM ⊕ ((Int32 × zM) ⊕ zM))) = t6 := hk6
                          have hf := hfo6
                          rw [← hk6] at hf
                          have hf : (f_X8_walk_B128 σl73 x1 x2 x3 x4 t0b59) = some (r, σ') := hf
                          exact KJ128 t0b59 σl73 H locs ls hG hS (lv_sub hl [1, 2, 3, 4, 5, 8] rfl) hf
                      · have hf := zif_n c64 hf
                        refine lv_goto (tgt := 166) hx hb dX8_walk_115 (by decide) ?_
                        exact KJ166_73 y5l73 y9l73 σl73 H locs ls hG hS (lv_sub hl [1, 2, 3, 4, 5, 9, 6, 7, 8, 10] rfl) hf
            exact KL73 zFu y5b59 0 σb59_6 H locs ls hG hS (lv_sub hl [2, 3, 4, 5, 6, 8, 9, 1, 7, 0] rfl) hw73
          · have hf := zif_n c42 hf
            cases hf
            have hk6 : ((.inl σb59_6) : (zM ⊕ ((Int32 × zM) ⊕ zM))) = t6 := hk6
            have hf := hfo6
            rw [← hk6] at hf
            have hf : (some ((-1), σb59_6)) = some (r, σ') := hf
            refine lv_iconst (v := (-1)) hx hb dX8_walk_68 (by decide) ?_
            obtain ⟨hq1, hq2⟩ := Prod.mk.inj (Option.some.inj hf)
            subst hq1
            subst hq2
            exact z_iret S hG hS hlocks trivial hr dX8_walk_69
        have KJ57_6 : ∀ (y5b57 : Int32) (y6b57 : Int32) (y7b57 : Int32)  (σb57_6 : zM) (H : Heap) (locs : List Loc) (ls : Array Slot), zG D aC A nl ad σb57_6 s H → va_S A s.heap H locs → lv_has ls 11 [(0, .ref (ad 8 0 0)), (1, .ref (ad 7 x1 0)), (2, .int x2), (3, .int x3), (4, .int x4), (5, .int y5b57), (6, .int y6b57), (7, .int y7b57)] → (f_X8_walk_B57_6 σb57_6 x1 x2 x3 x4 y5b57 y6b57 y7b57) = some rr6 → zWk p l e ({ frames := 2, cells := 0, slots := 0, locals := 46 } : Room) s m args below meth c A (some (.int r)) (fun t => zG D aC A nl ad σ' t t.heap ∧ True) H locs (F0 m 57 ls []) := by
          intro y5b57 y6b57 y7b57  σb57_6 H locs ls hG hS hl hf
          unfold f_X8_walk_B57_6 at hf
          refine lv_iload hx hb dX8_walk_57 (lv_at hl 4 rfl) ?_
          exact KJ59_6 y5b57 y6b57 y7b57 x4 σb57_6 H locs ls hG hS (lv_sub hl [0, 1, 2, 3, 4, 5, 6, 7] rfl) hf
        refine lv_iload hx hb dX8_walk_6 (lv_at hl 6 rfl) ?_
        refine lv_iload hx hb dX8_walk_8 (lv_at hl 5 rfl) ?_
        refine lv_icmp_ge (tgt := 178) hx hb dX8_walk_10 (by decide) (fun c38 => ?_) (fun c38 => ?_)
        · have hf := zif_p c38 hf
          cases hf
          have hk6 : ((.inr (.inr σl6)) : (zM ⊕ ((Int32 × zM) ⊕ zM))) = t6 := hk6
          have hf := hfo6
          rw [← hk6] at hf
          have hf : (some ((-1), σl6)) = some (r, σ') := hf
          refine lv_iconst (v := (-1)) hx hb dX8_walk_178 (by decide) ?_
          obtain ⟨hq1, hq2⟩ := Prod.mk.inj (Option.some.inj hf)
          subst hq1
          subst hq2
          exact z_iret S hG hS hlocks trivial hr dX8_walk_179
        · have hf := zif_n c38 hf
          refine lv_iload hx hb dX8_walk_13 (lv_at hl 6 rfl) ?_
          refine lv_aload_n hx hb dX8_walk_15 rfl (lv_at hl 0 rfl) ?_
          refine z_get (c0 := 8) (i0 := 0) (k0 := 1) (T := TX8) (v := .ref (ad 8 0 2)) S hG (hZ.2.1 (8, 0) (by decide)) rfl inlX8 (by decide) rfl zw_189 rfl dX8_walk_16 ?_
          refine z_alen (c0 := 8) (i0 := 0) (k0 := 1) (n := 4) (v := 160) S hG (hZ.2.1 (8, 0) (by decide)) (by decide) rfl (by decide) (by rfl) dX8_walk_19 ?_
          refine lv_icmp_ge (tgt := 178) hx hb dX8_walk_20 (by decide) (fun c39 => ?_) (fun c39 => ?_)
          · have hf := zif_p c39 hf
            cases hf
            have hk6 : ((.inr (.inr σl6)) : (zM ⊕ ((Int32 × zM) ⊕ zM))) = t6 := hk6
            have hf := hfo6
            rw [← hk6] at hf
            have hf : (some ((-1), σl6)) = some (r, σ') := hf
            refine lv_iconst (v := (-1)) hx hb dX8_walk_178 (by decide) ?_
            obtain ⟨hq1, hq2⟩ := Prod.mk.inj (Option.some.inj hf)
            subst hq1
            subst hq2
            exact z_iret S hG hS hlocks trivial hr dX8_walk_179
          · have hf := zif_n c39 hf
            refine lv_aload_n hx hb dX8_walk_23 rfl (lv_at hl 0 rfl) ?_
            refine z_get (c0 := 8) (i0 := 0) (k0 := 1) (T := TX8) (v := .ref (ad 8 0 2)) S hG (hZ.2.1 (8, 0) (by decide)) rfl inlX8 (by decide) rfl zw_189 rfl dX8_walk_24 ?_
            refine lv_iload hx hb dX8_walk_27 (lv_at hl 6 rfl) ?_
            obtain ⟨i40, hi40, hf⟩ := zbi hf
            refine z_iald (c0 := 8) (i0 := 0) (k0 := 1) S hG (hZ.2.1 (8, 0) (by decide)) (by decide) rfl hi40 dX8_walk_29 ?_
            refine lv_istore (lv' := [(7, .int (zA σl6 8 0 1 i40)), (0, .ref (ad 8 0 0)), (1, .ref (ad 7 x1 0)), (2, .int x2), (3, .int x3), (4, .int x4), (5, .int y5l6), (6, .int y6l6)]) hx hb dX8_walk_30 hl (by decide) rfl (fun ls hl => ?_)
            refine lv_iload hx hb dX8_walk_32 (lv_at hl 0 rfl) ?_
            refine lv_if_lt (tgt := 57) hx hb dX8_walk_34 (by decide) (fun c41 => ?_) (fun c41 => ?_)
            · have hf := zif_p c41 hf
              exact KJ57_6 y5l6 y6l6 (zA σl6 8 0 1 i40) σl6 H locs ls hG hS (lv_sub hl [1, 2, 3, 4, 5, 6, 7, 0] rfl) hf
            · have hf := zif_n c41 hf
              refine lv_iload hx hb dX8_walk_37 (lv_at hl 0 rfl) ?_
              refine lv_aload_n hx hb dX8_walk_39 rfl (lv_at hl 1 rfl) ?_
              refine z_get (c0 := 8) (i0 := 0) (k0 := 2) (T := TX8) (v := .ref (ad 8 0 3)) S hG (hZ.2.1 (8, 0) (by decide)) rfl inlX8 (by decide) rfl zw_190 rfl dX8_walk_40 ?_
              refine z_alen (c0 := 8) (i0 := 0) (k0 := 2) (n := 4) (v := 240) S hG (hZ.2.1 (8, 0) (by decide)) (by decide) rfl (by decide) (by rfl) dX8_walk_43 ?_
              refine lv_icmp_ge (tgt := 57) hx hb dX8_walk_44 (by decide) (fun c73 => ?_) (fun c73 => ?_)
              · have hf := zif_p c73 hf
                exact KJ57_6 y5l6 y6l6 (zA σl6 8 0 1 i40) σl6 H locs ls hG hS (lv_sub hl [1, 2, 3, 4, 5, 6, 7, 0] rfl) hf
              · have hf := zif_n c73 hf
                refine lv_aload_n hx hb dX8_walk_47 rfl (lv_at hl 1 rfl) ?_
                refine z_get (c0 := 8) (i0 := 0) (k0 := 2) (T := TX8) (v := .ref (ad 8 0 3)) S hG (hZ.2.1 (8, 0) (by decide)) rfl inlX8 (by decide) rfl zw_190 rfl dX8_walk_48 ?_
                refine lv_iload hx hb dX8_walk_51 (lv_at hl 0 rfl) ?_
                obtain ⟨i74, hi74, hf⟩ := zbi hf
                refine z_iald (c0 := 8) (i0 := 0) (k0 := 2) S hG (hZ.2.1 (8, 0) (by decide)) (by decide) rfl hi74 dX8_walk_53 ?_
                refine lv_goto (tgt := 59) hx hb dX8_walk_54 (by decide) ?_
                exact KJ59_6 y5l6 y6l6 (zA σl6 8 0 1 i40) (zA σl6 8 0 2 i74) σl6 H locs ls hG hS (lv_sub hl [1, 2, 3, 4, 5, 6, 7, 0] rfl) hf
    exact KL6 zFu x3 0 σ H locs ls hG hS (lv_sub hl [2, 3, 4, 5, 6, 1, 0] rfl) hw6
  exact hK0 _ _ ls hG hS hl hf
