set_option maxRecDepth 100000 in
set_option maxHeartbeats 4000000 in
theorem c_J6_compare_7cf53 (l : Launch) (D : va_G) (aC : Nat → ClassId) (zs : Nat × Nat) (fx : List (Nat × Nat)) (A : Nat → Prop) (nl : List (Nat × Nat × Nat)) (ad : Nat → Nat → Nat → Nat) (σ : zM) (x0 : Int32) (x1 : Int32) (r : Int32)  (hf : f_J6_compare_7cf53 x0 x1 = r) : Met l yJ6_compare_7cf53 (Cond.code yJ6_compare_7cf53 cJ6_compare_7cf53 2 (some .int) :: wsL_law) ({ frames := 0, cells := 0, slots := 0, locals := 0 } : Room) (zP D aC zs fx A nl ad σ [.int x0, .int x1]) (zQ (some (.int r)) (fun t => zG D aC A nl ad σ t t.heap ∧ True) A) 0 0 A := by
  refine Met.ofW (cc := cJ6_compare_7cf53) (maxL := 2) (ret := (some .int)) (by decide) rfl ?_
  intro p e s m args below meth c s₁ B hml hv
  obtain ⟨rfl, hG, hZ⟩ := hv
  have hx := B.exec
  have hb := B.bytes
  have hr := B.returns
  have hts : ∀ w ∈ wsL_law, w.before ([.int x0, .int x1] : List Value).toArray s = true := fun w h => (atoms_spec B.pre) w (List.mem_cons_of_mem _ h)
  have hown : s.vm.findClass RJ6 = some m.cls := findClass_of_methodNamed B.named
  have hlocks := B.notSynchronized
  have S : zS p m c cJ6_compare_7cf53 2 s ([.int x0, .int x1] : List Value).toArray RJ6 := ⟨hx, hb, hml, hown, hts⟩
  have hS : va_S A s.heap s.heap [] := va_S.rf
  have hl := lv_entry ([.int x0, .int x1]) (n := 2) (Nat.le_of_ble_eq_true rfl)
  rw [lg_entry_eq]
  generalize (lg_sl ([.int x0, .int x1]) ++ List.replicate (2 - (lg_sl ([.int x0, .int x1])).length) Slot.unset).toArray = ls at hl ⊢
  have hl : lv_has ls 2 [(0, .int x0), (1, .int x1)] := hl
  generalize hargs : ([.int x0, .int x1] : List Value).toArray = args at S hts ⊢
  clear hargs
  have hK0 : ∀ (H : Heap) (locs : List Loc) (ls : Array Slot), zG D aC A nl ad σ s H → va_S A s.heap H locs → lv_has ls 2 [(0, .int x0), (1, .int x1)] → f_J6_compare_7cf53 x0 x1 = r → zWk p l e ({ frames := 0, cells := 0, slots := 0, locals := 0 } : Room) s m args below meth c A (some (.int r)) (fun t => zG D aC A nl ad σ t t.heap ∧ True) H locs (F0 m 0 ls []) := by
    intro H locs ls hG hS hl hf
    unfold f_J6_compare_7cf53 at hf
    refine lv_iload_n hx hb dJ6_compare_7cf53_0 rfl (lv_at hl 0 rfl) ?_
    refine lv_iload_n hx hb dJ6_compare_7cf53_1 rfl (lv_at hl 1 rfl) ?_
    refine lv_icmp_ge (tgt := 9) hx hb dJ6_compare_7cf53_2 (by decide) (fun c1 => ?_) (fun c1 => ?_)
    · have hf := zif_p c1 hf
      refine lv_iload_n hx hb dJ6_compare_7cf53_9 rfl (lv_at hl 0 rfl) ?_
      refine lv_iload_n hx hb dJ6_compare_7cf53_10 rfl (lv_at hl 1 rfl) ?_
      refine lv_icmp_ne (tgt := 18) hx hb dJ6_compare_7cf53_11 (by decide) (fun c2 => ?_) (fun c2 => ?_)
      · have hf := zif_n c2 hf
        refine lv_iconst (v := 1) hx hb dJ6_compare_7cf53_18 (by decide) ?_
        subst hf
        exact z_iret S hG hS hlocks trivial hr dJ6_compare_7cf53_19
      · have hf := zif_p c2 hf
        refine lv_iconst (v := 0) hx hb dJ6_compare_7cf53_14 (by decide) ?_
        refine lv_goto (tgt := 19) hx hb dJ6_compare_7cf53_15 (by decide) ?_
        subst hf
        exact z_iret S hG hS hlocks trivial hr dJ6_compare_7cf53_19
    · have hf := zif_n c1 hf
      refine lv_iconst (v := (-1)) hx hb dJ6_compare_7cf53_5 (by decide) ?_
      refine lv_goto (tgt := 19) hx hb dJ6_compare_7cf53_6 (by decide) ?_
      subst hf
      exact z_iret S hG hS hlocks trivial hr dJ6_compare_7cf53_19
  exact hK0 _ _ ls hG hS hl hf
set_option maxRecDepth 100000 in
set_option maxHeartbeats 4000000 in
theorem c_X12_isIn (l : Launch) (D : va_G) (aC : Nat → ClassId) (zs : Nat × Nat) (A : Nat → Prop) (nl : List (Nat × Nat × Nat)) (ad : Nat → Nat → Nat → Nat) (σ : zM) (x0 : Int32) (x1 : Int32) (x2 : Int32) (r : Int32)  (hf : f_X12_isIn x0 x1 x2 = r) : Met l yX12_isIn (Cond.code yX12_isIn cX12_isIn 3 (some .boolean) :: wsL_law) ({ frames := 0, cells := 0, slots := 0, locals := 0 } : Room) (zP D aC zs zfM A nl ad σ [.int x0, .int x1, .int x2]) (zQ (some (.int r)) (fun t => zG D aC A nl ad σ t t.heap ∧ (r = 0 ∨ r = 1)) A) 0 0 A := by
  refine Met.ofW (cc := cX12_isIn) (maxL := 3) (ret := (some .boolean)) (by decide) rfl ?_
  intro p e s m args below meth c s₁ B hml hv
  obtain ⟨rfl, hG, hZ⟩ := hv
  have hx := B.exec
  have hb := B.bytes
  have hr := B.returns
  have hts : ∀ w ∈ wsL_law, w.before ([.int x0, .int x1, .int x2] : List Value).toArray s = true := fun w h => (atoms_spec B.pre) w (List.mem_cons_of_mem _ h)
  have hown : s.vm.findClass RX12 = some m.cls := findClass_of_methodNamed B.named
  have hlocks := B.notSynchronized
  have S : zS p m c cX12_isIn 3 s ([.int x0, .int x1, .int x2] : List Value).toArray RX12 := ⟨hx, hb, hml, hown, hts⟩
  have hS : va_S A s.heap s.heap [] := va_S.rf
  have hl := lv_entry ([.int x0, .int x1, .int x2]) (n := 3) (Nat.le_of_ble_eq_true rfl)
  rw [lg_entry_eq]
  generalize (lg_sl ([.int x0, .int x1, .int x2]) ++ List.replicate (3 - (lg_sl ([.int x0, .int x1, .int x2])).length) Slot.unset).toArray = ls at hl ⊢
  have hl : lv_has ls 3 [(0, .int x0), (1, .int x1), (2, .int x2)] := hl
  generalize hargs : ([.int x0, .int x1, .int x2] : List Value).toArray = args at S hts ⊢
  clear hargs
  have hK0 : ∀ (H : Heap) (locs : List Loc) (ls : Array Slot), zG D aC A nl ad σ s H → va_S A s.heap H locs → lv_has ls 3 [(0, .int x0), (1, .int x1), (2, .int x2)] → f_X12_isIn x0 x1 x2 = r → zWk p l e ({ frames := 0, cells := 0, slots := 0, locals := 0 } : Room) s m args below meth c A (some (.int r)) (fun t => zG D aC A nl ad σ t t.heap ∧ (r = 0 ∨ r = 1)) H locs (F0 m 0 ls []) := by
    intro H locs ls hG hS hl hf
    unfold f_X12_isIn at hf
    refine lv_iload_n hx hb dX12_isIn_0 rfl (lv_at hl 0 rfl) ?_
    refine lv_iload_n hx hb dX12_isIn_1 rfl (lv_at hl 1 rfl) ?_
    refine lv_icmp_lt (tgt := 14) hx hb dX12_isIn_2 (by decide) (fun c1 => ?_) (fun c1 => ?_)
    · have hf := zif_p c1 hf
      refine lv_iconst (v := 0) hx hb dX12_isIn_14 (by decide) ?_
      subst hf
      exact z_zret S hG hS hlocks (Or.inl rfl) hr dX12_isIn_15
    · have hf := zif_n c1 hf
      refine lv_iload_n hx hb dX12_isIn_5 rfl (lv_at hl 0 rfl) ?_
      refine lv_iload_n hx hb dX12_isIn_6 rfl (lv_at hl 2 rfl) ?_
      refine lv_icmp_gt (tgt := 14) hx hb dX12_isIn_7 (by decide) (fun c2 => ?_) (fun c2 => ?_)
      · have hf := zif_p c2 hf
        refine lv_iconst (v := 0) hx hb dX12_isIn_14 (by decide) ?_
        subst hf
        exact z_zret S hG hS hlocks (Or.inl rfl) hr dX12_isIn_15
      · have hf := zif_n c2 hf
        refine lv_iconst (v := 1) hx hb dX12_isIn_10 (by decide) ?_
        refine lv_goto (tgt := 15) hx hb dX12_isIn_11 (by decide) ?_
        subst hf
        exact z_zret S hG hS hlocks (Or.inr rfl) hr dX12_isIn_15
  exact hK0 _ _ ls hG hS hl hf
set_option maxRecDepth 100000 in
set_option maxHeartbeats 4000000 in
theorem c_X12_one (l : Launch) (D : va_G) (aC : Nat → ClassId) (zs : Nat × Nat) (A : Nat → Prop) (nl : List (Nat × Nat × Nat)) (ad : Nat → Nat → Nat → Nat) (σ : zM) (x0 : Int32) (r : Int32)  (hf : f_X12_one x0 = r) : Met l yX12_one (Cond.code yX12_one cX12_one 1 (some .int) :: wsL_law) ({ frames := 0, cells := 0, slots := 0, locals := 0 } : Room) (zP D aC zs zfM A nl ad σ [.int x0]) (zQ (some (.int r)) (fun t => zG D aC A nl ad σ t t.heap ∧ True) A) 0 0 A := by
  refine Met.ofW (cc := cX12_one) (maxL := 1) (ret := (some .int)) (by decide) rfl ?_
  intro p e s m args below meth c s₁ B hml hv
  obtain ⟨rfl, hG, hZ⟩ := hv
  have hx := B.exec
  have hb := B.bytes
  have hr := B.returns
  have hts : ∀ w ∈ wsL_law, w.before ([.int x0] : List Value).toArray s = true := fun w h => (atoms_spec B.pre) w (List.mem_cons_of_mem _ h)
  have hown : s.vm.findClass RX12 = some m.cls := findClass_of_methodNamed B.named
  have hlocks := B.notSynchronized
  have S : zS p m c cX12_one 1 s ([.int x0] : List Value).toArray RX12 := ⟨hx, hb, hml, hown, hts⟩
  have hS : va_S A s.heap s.heap [] := va_S.rf
  have hl := lv_entry ([.int x0]) (n := 1) (Nat.le_of_ble_eq_true rfl)
  rw [lg_entry_eq]
  generalize (lg_sl ([.int x0]) ++ List.replicate (1 - (lg_sl ([.int x0])).length) Slot.unset).toArray = ls at hl ⊢
  have hl : lv_has ls 1 [(0, .int x0)] := hl
  generalize hargs : ([.int x0] : List Value).toArray = args at S hts ⊢
  clear hargs
  have hK0 : ∀ (H : Heap) (locs : List Loc) (ls : Array Slot), zG D aC A nl ad σ s H → va_S A s.heap H locs → lv_has ls 1 [(0, .int x0)] → f_X12_one x0 = r → zWk p l e ({ frames := 0, cells := 0, slots := 0, locals := 0 } : Room) s m args below meth c A (some (.int r)) (fun t => zG D aC A nl ad σ t t.heap ∧ True) H locs (F0 m 0 ls []) := by
    intro H locs ls hG hS hl hf
    unfold f_X12_one at hf
    refine lv_iload_n hx hb dX12_one_0 rfl (lv_at hl 0 rfl) ?_
    refine lv_if_eq (tgt := 8) hx hb dX12_one_1 (by decide) (fun c1 => ?_) (fun c1 => ?_)
    · have hf := zif_p c1 hf
      refine lv_iconst (v := 0) hx hb dX12_one_8 (by decide) ?_
      subst hf
      exact z_iret S hG hS hlocks trivial hr dX12_one_9
    · have hf := zif_n c1 hf
      refine lv_iconst (v := 1) hx hb dX12_one_4 (by decide) ?_
      refine lv_goto (tgt := 9) hx hb dX12_one_5 (by decide) ?_
      subst hf
      exact z_iret S hG hS hlocks trivial hr dX12_one_9
  exact hK0 _ _ ls hG hS hl hf
set_option maxRecDepth 100000 in
set_option maxHeartbeats 4000000 in
theorem c_X12_isScheme (l : Launch) (D : va_G) (aC : Nat → ClassId) (zs : Nat × Nat) (A : Nat → Prop) (nl : List (Nat × Nat × Nat)) (ad : Nat → Nat → Nat → Nat) (σ : zM) (x1 : Int32) (r : Int32)  (hf : f_X12_isScheme σ x1 = r) : Met l yX12_isScheme (Cond.code yX12_isScheme cX12_isScheme 2 (some .boolean) :: wsL_law) ({ frames := 1, cells := 0, slots := 0, locals := 22 } : Room) (zP D aC zs zfM A nl ad σ [.ref (ad 12 0 0), .int x1]) (zQ (some (.int r)) (fun t => zG D aC A nl ad σ t t.heap ∧ (r = 0 ∨ r = 1)) A) 0 0 A := by
  refine Met.ofW (cc := cX12_isScheme) (maxL := 2) (ret := (some .boolean)) (by decide) rfl ?_
  intro p e s m args below meth c s₁ B hml hv
  obtain ⟨rfl, hG, hZ⟩ := hv
  have hx := B.exec
  have hb := B.bytes
  have hr := B.returns
  have hts : ∀ w ∈ wsL_law, w.before ([.ref (ad 12 0 0), .int x1] : List Value).toArray s = true := fun w h => (atoms_spec B.pre) w (List.mem_cons_of_mem _ h)
  have hown : s.vm.findClass RX12 = some m.cls := findClass_of_methodNamed B.named
  have hlocks := B.notSynchronized
  have S : zS p m c cX12_isScheme 2 s ([.ref (ad 12 0 0), .int x1] : List Value).toArray RX12 := ⟨hx, hb, hml, hown, hts⟩
  have hS : va_S A s.heap s.heap [] := va_S.rf
  have hl := lv_entry ([.ref (ad 12 0 0), .int x1]) (n := 2) (Nat.le_of_ble_eq_true rfl)
  rw [lg_entry_eq]
  generalize (lg_sl ([.ref (ad 12 0 0), .int x1]) ++ List.replicate (2 - (lg_sl ([.ref (ad 12 0 0), .int x1])).length) Slot.unset).toArray = ls at hl ⊢
  have hl : lv_has ls 2 [(0, .ref (ad 12 0 0)), (1, .int x1)] := hl
  generalize hargs : ([.ref (ad 12 0 0), .int x1] : List Value).toArray = args at S hts ⊢
  clear hargs
  have hK0 : ∀ (H : Heap) (locs : List Loc) (ls : Array Slot), zG D aC A nl ad σ s H → va_S A s.heap H locs → lv_has ls 2 [(0, .ref (ad 12 0 0)), (1, .int x1)] → f_X12_isScheme σ x1 = r → zWk p l e ({ frames := 1, cells := 0, slots := 0, locals := 22 } : Room) s m args below meth c A (some (.int r)) (fun t => zG D aC A nl ad σ t t.heap ∧ (r = 0 ∨ r = 1)) H locs (F0 m 0 ls []) := by
    intro H locs ls hG hS hl hf
    unfold f_X12_isScheme at hf
    refine lv_iload_n hx hb dX12_isScheme_0 rfl (lv_at hl 1 rfl) ?_
    refine lv_iconst (v := 0) hx hb dX12_isScheme_1 (by decide) ?_
    refine lv_aload_n hx hb dX12_isScheme_2 rfl (lv_at hl 0 rfl) ?_
    refine z_get (c0 := 12) (i0 := 0) (k0 := 1) (T := TX12) (v := .int (zI σ 12 0 1)) S hG (hZ.2.1 (12, 0) (by decide)) rfl inlX12 (by decide) rfl zw_799 rfl dX12_isScheme_3 ?_
    refine lv_iconst (v := 1) hx hb dX12_isScheme_6 (by decide) ?_
    refine lv_isub hx hb dX12_isScheme_7 ?_
    refine z_callS (n := 3) (rest := []) (st1 := [.int (f_X12_isIn x1 0 ((zI σ 12 0 1) - 1))]) S hG hS hZ (fun _ h => h) (c_X12_isIn l D aC zs A nl ad σ x1 0 ((zI σ 12 0 1) - 1) (f_X12_isIn x1 0 ((zI σ 12 0 1) - 1)) rfl) zw_512 zw_513 zw_5 zw_514 (by decide +kernel) ⟨rfl, rfl⟩ ⟨(Nat.le_of_ble_eq_true rfl), (Nat.le_of_ble_eq_true rfl)⟩ hl.1 rfl (by rfl) (by rfl) (Nat.le_of_ble_eq_true rfl) dX12_isScheme_8 ⟨Nat.zero_le _, Nat.zero_le _⟩ (fun H locs hz1 hG hS => ?_)
    subst hf
    exact z_zret S hG hS hlocks hz1 hr dX12_isScheme_11
  exact hK0 _ _ ls hG hS hl hf
set_option maxRecDepth 100000 in
set_option maxHeartbeats 4000000 in
theorem c_X12_isDay (l : Launch) (D : va_G) (aC : Nat → ClassId) (zs : Nat × Nat) (A : Nat → Prop) (nl : List (Nat × Nat × Nat)) (ad : Nat → Nat → Nat → Nat) (σ : zM) (x0 : Int32) (r : Int32)  (hf : f_X12_isDay x0 = r) : Met l yX12_isDay (Cond.code yX12_isDay cX12_isDay 1 (some .boolean) :: wsL_law) ({ frames := 1, cells := 0, slots := 0, locals := 22 } : Room) (zP D aC zs zfM A nl ad σ [.int x0]) (zQ (some (.int r)) (fun t => zG D aC A nl ad σ t t.heap ∧ (r = 0 ∨ r = 1)) A) 0 0 A := by
  refine Met.ofW (cc := cX12_isDay) (maxL := 1) (ret := (some .boolean)) (by decide) rfl ?_
  intro p e s m args below meth c s₁ B hml hv
  obtain ⟨rfl, hG, hZ⟩ := hv
  have hx := B.exec
  have hb := B.bytes
  have hr := B.returns
  have hts : ∀ w ∈ wsL_law, w.before ([.int x0] : List Value).toArray s = true := fun w h => (atoms_spec B.pre) w (List.mem_cons_of_mem _ h)
  have hown : s.vm.findClass RX12 = some m.cls := findClass_of_methodNamed B.named
  have hlocks := B.notSynchronized
  have S : zS p m c cX12_isDay 1 s ([.int x0] : List Value).toArray RX12 := ⟨hx, hb, hml, hown, hts⟩
  have hS : va_S A s.heap s.heap [] := va_S.rf
  have hl := lv_entry ([.int x0]) (n := 1) (Nat.le_of_ble_eq_true rfl)
  rw [lg_entry_eq]
  generalize (lg_sl ([.int x0]) ++ List.replicate (1 - (lg_sl ([.int x0])).length) Slot.unset).toArray = ls at hl ⊢
  have hl : lv_has ls 1 [(0, .int x0)] := hl
  generalize hargs : ([.int x0] : List Value).toArray = args at S hts ⊢
  clear hargs
  have hK0 : ∀ (H : Heap) (locs : List Loc) (ls : Array Slot), zG D aC A nl ad σ s H → va_S A s.heap H locs → lv_has ls 1 [(0, .int x0)] → f_X12_isDay x0 = r → zWk p l e ({ frames := 1, cells := 0, slots := 0, locals := 22 } : Room) s m args below meth c A (some (.int r)) (fun t => zG D aC A nl ad σ t t.heap ∧ (r = 0 ∨ r = 1)) H locs (F0 m 0 ls []) := by
    intro H locs ls hG hS hl hf
    unfold f_X12_isDay at hf
    refine lv_iload_n hx hb dX12_isDay_0 rfl (lv_at hl 0 rfl) ?_
    refine lv_iconst (v := 0) hx hb dX12_isDay_1 (by decide) ?_
    refine lv_sipush (v := 1000) hx hb dX12_isDay_2 (by decide) ?_
    refine z_callS (n := 3) (rest := []) (st1 := [.int (f_X12_isIn x0 0 1000)]) S hG hS hZ (fun _ h => h) (c_X12_isIn l D aC zs A nl ad σ x0 0 1000 (f_X12_isIn x0 0 1000) rfl) zw_512 zw_513 zw_5 zw_514 (by decide +kernel) ⟨rfl, rfl⟩ ⟨(Nat.le_of_ble_eq_true rfl), (Nat.le_of_ble_eq_true rfl)⟩ hl.1 rfl (by rfl) (by rfl) (Nat.le_of_ble_eq_true rfl) dX12_isDay_5 ⟨Nat.zero_le _, Nat.zero_le _⟩ (fun H locs hz1 hG hS => ?_)
    subst hf
    exact z_zret S hG hS hlocks hz1 hr dX12_isDay_8
  exact hK0 _ _ ls hG hS hl hf
set_option maxRecDepth 100000 in
set_option maxHeartbeats 4000000 in
theorem c_X12_isSpot (l : Launch) (D : va_G) (aC : Nat → ClassId) (zs : Nat × Nat) (A : Nat → Prop) (nl : List (Nat × Nat × Nat)) (ad : Nat → Nat → Nat → Nat) (σ : zM) (x0 : Int32) (x1 : Int32) (x2 : Int32) (r : Int32)  (hf : f_X12_isSpot x0 x1 x2 = r) : Met l yX12_isSpot (Cond.code yX12_isSpot cX12_isSpot 3 (some .boolean) :: wsL_law) ({ frames := 1, cells := 0, slots := 0, locals := 22 } : Room) (zP D aC zs zfM A nl ad σ [.int x0, .int x1, .int x2]) (zQ (some (.int r)) (fun t => zG D aC A nl ad σ t t.heap ∧ (r = 0 ∨ r = 1)) A) 0 0 A := by
  refine Met.ofW (cc := cX12_isSpot) (maxL := 3) (ret := (some .boolean)) (by decide) rfl ?_
  intro p e s m args below meth c s₁ B hml hv
  obtain ⟨rfl, hG, hZ⟩ := hv
  have hx := B.exec
  have hb := B.bytes
  have hr := B.returns
  have hts : ∀ w ∈ wsL_law, w.before ([.int x0, .int x1, .int x2] : List Value).toArray s = true := fun w h => (atoms_spec B.pre) w (List.mem_cons_of_mem _ h)
  have hown : s.vm.findClass RX12 = some m.cls := findClass_of_methodNamed B.named
  have hlocks := B.notSynchronized
  have S : zS p m c cX12_isSpot 3 s ([.int x0, .int x1, .int x2] : List Value).toArray RX12 := ⟨hx, hb, hml, hown, hts⟩
  have hS : va_S A s.heap s.heap [] := va_S.rf
  have hl := lv_entry ([.int x0, .int x1, .int x2]) (n := 3) (Nat.le_of_ble_eq_true rfl)
  rw [lg_entry_eq]
  generalize (lg_sl ([.int x0, .int x1, .int x2]) ++ List.replicate (3 - (lg_sl ([.int x0, .int x1, .int x2])).length) Slot.unset).toArray = ls at hl ⊢
  have hl : lv_has ls 3 [(0, .int x0), (1, .int x1), (2, .int x2)] := hl
  generalize hargs : ([.int x0, .int x1, .int x2] : List Value).toArray = args at S hts ⊢
  clear hargs
  have hK0 : ∀ (H : Heap) (locs : List Loc) (ls : Array Slot), zG D aC A nl ad σ s H → va_S A s.heap H locs → lv_has ls 3 [(0, .int x0), (1, .int x1), (2, .int x2)] → f_X12_isSpot x0 x1 x2 = r → zWk p l e ({ frames := 1, cells := 0, slots := 0, locals := 22 } : Room) s m args below meth c A (some (.int r)) (fun t => zG D aC A nl ad σ t t.heap ∧ (r = 0 ∨ r = 1)) H locs (F0 m 0 ls []) := by
    intro H locs ls hG hS hl hf
    unfold f_X12_isSpot at hf
    refine lv_iload_n hx hb dX12_isSpot_0 rfl (lv_at hl 0 rfl) ?_
    refine lv_iconst (v := 0) hx hb dX12_isSpot_1 (by decide) ?_
    refine lv_iconst (v := 1) hx hb dX12_isSpot_2 (by decide) ?_
    refine z_callS (n := 3) (rest := []) (st1 := [.int (f_X12_isIn x0 0 1)]) S hG hS hZ (fun _ h => h) (c_X12_isIn l D aC zs A nl ad σ x0 0 1 (f_X12_isIn x0 0 1) rfl) zw_512 zw_513 zw_5 zw_514 (by decide +kernel) ⟨rfl, rfl⟩ ⟨(Nat.le_of_ble_eq_true rfl), (Nat.le_of_ble_eq_true rfl)⟩ hl.1 rfl (by rfl) (by rfl) (Nat.le_of_ble_eq_true rfl) dX12_isSpot_3 ⟨Nat.zero_le _, Nat.zero_le _⟩ (fun H locs hz1 hG hS => ?_)
    refine lv_if_eq (tgt := 33) hx hb dX12_isSpot_6 (by decide) (fun c2 => ?_) (fun c2 => ?_)
    · have hf := zif_p c2 hf
      refine lv_iconst (v := 0) hx hb dX12_isSpot_33 (by decide) ?_
      subst hf
      exact z_zret S hG hS hlocks (Or.inl rfl) hr dX12_isSpot_34
    · have hf := zif_n c2 hf
      refine lv_iload_n hx hb dX12_isSpot_9 rfl (lv_at hl 1 rfl) ?_
      refine lv_iconst (v := 0) hx hb dX12_isSpot_10 (by decide) ?_
      refine lv_bipush (v := 9) hx hb dX12_isSpot_11 (by decide) ?_
      refine z_callS (n := 3) (rest := []) (st1 := [.int (f_X12_isIn x1 0 9)]) S hG hS hZ (fun _ h => h) (c_X12_isIn l D aC zs A nl ad σ x1 0 9 (f_X12_isIn x1 0 9) rfl) zw_512 zw_513 zw_5 zw_514 (by decide +kernel) ⟨rfl, rfl⟩ ⟨(Nat.le_of_ble_eq_true rfl), (Nat.le_of_ble_eq_true rfl)⟩ hl.1 rfl (by rfl) (by rfl) (Nat.le_of_ble_eq_true rfl) dX12_isSpot_13 ⟨Nat.zero_le _, Nat.zero_le _⟩ (fun H locs hz3 hG hS => ?_)
      refine lv_if_eq (tgt := 33) hx hb dX12_isSpot_16 (by decide) (fun c4 => ?_) (fun c4 => ?_)
      · have hf := zif_p c4 hf
        refine lv_iconst (v := 0) hx hb dX12_isSpot_33 (by decide) ?_
        subst hf
        exact z_zret S hG hS hlocks (Or.inl rfl) hr dX12_isSpot_34
      · have hf := zif_n c4 hf
        refine lv_iload_n hx hb dX12_isSpot_19 rfl (lv_at hl 2 rfl) ?_
        refine lv_iconst (v := 0) hx hb dX12_isSpot_20 (by decide) ?_
        refine lv_bipush (v := 7) hx hb dX12_isSpot_21 (by decide) ?_
        refine z_callS (n := 3) (rest := []) (st1 := [.int (f_X12_isIn x2 0 7)]) S hG hS hZ (fun _ h => h) (c_X12_isIn l D aC zs A nl ad σ x2 0 7 (f_X12_isIn x2 0 7) rfl) zw_512 zw_513 zw_5 zw_514 (by decide +kernel) ⟨rfl, rfl⟩ ⟨(Nat.le_of_ble_eq_true rfl), (Nat.le_of_ble_eq_true rfl)⟩ hl.1 rfl (by rfl) (by rfl) (Nat.le_of_ble_eq_true rfl) dX12_isSpot_23 ⟨Nat.zero_le _, Nat.zero_le _⟩ (fun H locs hz5 hG hS => ?_)
        refine lv_if_eq (tgt := 33) hx hb dX12_isSpot_26 (by decide) (fun c6 => ?_) (fun c6 => ?_)
        · have hf := zif_p c6 hf
          refine lv_iconst (v := 0) hx hb dX12_isSpot_33 (by decide) ?_
          subst hf
          exact z_zret S hG hS hlocks (Or.inl rfl) hr dX12_isSpot_34
        · have hf := zif_n c6 hf
          refine lv_iconst (v := 1) hx hb dX12_isSpot_29 (by decide) ?_
          refine lv_goto (tgt := 34) hx hb dX12_isSpot_30 (by decide) ?_
          subst hf
          exact z_zret S hG hS hlocks (Or.inr rfl) hr dX12_isSpot_34
  exact hK0 _ _ ls hG hS hl hf
set_option maxRecDepth 100000 in
set_option maxHeartbeats 4000000 in
theorem c_X12_spot (l : Launch) (D : va_G) (aC : Nat → ClassId) (zs : Nat × Nat) (A : Nat → Prop) (nl : List (Nat × Nat × Nat)) (ad : Nat → Nat → Nat → Nat) (σ : zM) (x0 : Int32) (x1 : Int32) (x2 : Int32) (r : Int32)  (hf : f_X12_spot x0 x1 x2 = r) : Met l yX12_spot (Cond.code yX12_spot cX12_spot 3 (some .int) :: wsL_law) ({ frames := 0, cells := 0, slots := 0, locals := 0 } : Room) (zP D aC zs zfM A nl ad σ [.int x0, .int x1, .int x2]) (zQ (some (.int r)) (fun t => zG D aC A nl ad σ t t.heap ∧ True) A) 0 0 A := by
  refine Met.ofW (cc := cX12_spot) (maxL := 3) (ret := (some .int)) (by decide) rfl ?_
  intro p e s m args below meth c s₁ B hml hv
  obtain ⟨rfl, hG, hZ⟩ := hv
  have hx := B.exec
  have hb := B.bytes
  have hr := B.returns
  have hts : ∀ w ∈ wsL_law, w.before ([.int x0, .int x1, .int x2] : List Value).toArray s = true := fun w h => (atoms_spec B.pre) w (List.mem_cons_of_mem _ h)
  have hown : s.vm.findClass RX12 = some m.cls := findClass_of_methodNamed B.named
  have hlocks := B.notSynchronized
  have S : zS p m c cX12_spot 3 s ([.int x0, .int x1, .int x2] : List Value).toArray RX12 := ⟨hx, hb, hml, hown, hts⟩
  have hS : va_S A s.heap s.heap [] := va_S.rf
  have hl := lv_entry ([.int x0, .int x1, .int x2]) (n := 3) (Nat.le_of_ble_eq_true rfl)
  rw [lg_entry_eq]
  generalize (lg_sl ([.int x0, .int x1, .int x2]) ++ List.replicate (3 - (lg_sl ([.int x0, .int x1, .int x2])).length) Slot.unset).toArray = ls at hl ⊢
  have hl : lv_has ls 3 [(0, .int x0), (1, .int x1), (2, .int x2)] := hl
  generalize hargs : ([.int x0, .int x1, .int x2] : List Value).toArray = args at S hts ⊢
  clear hargs
  have hK0 : ∀ (H : Heap) (locs : List Loc) (ls : Array Slot), zG D aC A nl ad σ s H → va_S A s.heap H locs → lv_has ls 3 [(0, .int x0), (1, .int x1), (2, .int x2)] → f_X12_spot x0 x1 x2 = r → zWk p l e ({ frames := 0, cells := 0, slots := 0, locals := 0 } : Room) s m args below meth c A (some (.int r)) (fun t => zG D aC A nl ad σ t t.heap ∧ True) H locs (F0 m 0 ls []) := by
    intro H locs ls hG hS hl hf
    unfold f_X12_spot at hf
    refine lv_bipush (v := 80) hx hb dX12_spot_0 (by decide) ?_
    refine lv_iload_n hx hb dX12_spot_2 rfl (lv_at hl 0 rfl) ?_
    refine lv_imul hx hb dX12_spot_3 ?_
    refine lv_bipush (v := 10) hx hb dX12_spot_4 (by decide) ?_
    refine lv_iload_n hx hb dX12_spot_6 rfl (lv_at hl 2 rfl) ?_
    refine lv_imul hx hb dX12_spot_7 ?_
    refine lv_iadd hx hb dX12_spot_8 ?_
    refine lv_iload_n hx hb dX12_spot_9 rfl (lv_at hl 1 rfl) ?_
    refine lv_iadd hx hb dX12_spot_10 ?_
    subst hf
    exact z_iret S hG hS hlocks trivial hr dX12_spot_11
  exact hK0 _ _ ls hG hS hl hf
set_option maxRecDepth 100000 in
set_option maxHeartbeats 4000000 in
theorem c_X12_day (l : Launch) (D : va_G) (aC : Nat → ClassId) (zs : Nat × Nat) (A : Nat → Prop) (nl : List (Nat × Nat × Nat)) (ad : Nat → Nat → Nat → Nat) (σ : zM) (x1 : Int32) (r : Int32) (σ' : zM)  (hf : f_X12_day σ x1 = (r, σ')) : Met l yX12_day (Cond.code yX12_day cX12_day 2 (some .boolean) :: wsL_law) ({ frames := 0, cells := 0, slots := 0, locals := 0 } : Room) (zP D aC zs zfM A nl ad σ [.ref (ad 12 0 0), .int x1]) (zQ (some (.int r)) (fun t => zG D aC A nl ad σ' t t.heap ∧ (r = 0 ∨ r = 1)) A) 0 0 A := by
  refine Met.ofW (cc := cX12_day) (maxL := 2) (ret := (some .boolean)) (by decide) rfl ?_
  intro p e s m args below meth c s₁ B hml hv
  obtain ⟨rfl, hG, hZ⟩ := hv
  have hx := B.exec
  have hb := B.bytes
  have hr := B.returns
  have hts : ∀ w ∈ wsL_law, w.before ([.ref (ad 12 0 0), .int x1] : List Value).toArray s = true := fun w h => (atoms_spec B.pre) w (List.mem_cons_of_mem _ h)
  have hown : s.vm.findClass RX12 = some m.cls := findClass_of_methodNamed B.named
  have hlocks := B.notSynchronized
  have S : zS p m c cX12_day 2 s ([.ref (ad 12 0 0), .int x1] : List Value).toArray RX12 := ⟨hx, hb, hml, hown, hts⟩
  have hS : va_S A s.heap s.heap [] := va_S.rf
  have hl := lv_entry ([.ref (ad 12 0 0), .int x1]) (n := 2) (Nat.le_of_ble_eq_true rfl)
  rw [lg_entry_eq]
  generalize (lg_sl ([.ref (ad 12 0 0), .int x1]) ++ List.replicate (2 - (lg_sl ([.ref (ad 12 0 0), .int x1])).length) Slot.unset).toArray = ls at hl ⊢
  have hl : lv_has ls 2 [(0, .ref (ad 12 0 0)), (1, .int x1)] := hl
  generalize hargs : ([.ref (ad 12 0 0), .int x1] : List Value).toArray = args at S hts ⊢
  clear hargs
  have hK0 : ∀ (H : Heap) (locs : List Loc) (ls : Array Slot), zG D aC A nl ad σ s H → va_S A s.heap H locs → lv_has ls 2 [(0, .ref (ad 12 0 0)), (1, .int x1)] → f_X12_day σ x1 = (r, σ') → zWk p l e ({ frames := 0, cells := 0, slots := 0, locals := 0 } : Room) s m args below meth c A (some (.int r)) (fun t => zG D aC A nl ad σ' t t.heap ∧ (r = 0 ∨ r = 1)) H locs (F0 m 0 ls []) := by
    intro H locs ls hG hS hl hf
    unfold f_X12_day at hf
    refine lv_iload_n hx hb dX12_day_0 rfl (lv_at hl 1 rfl) ?_
    refine lv_aload_n hx hb dX12_day_1 rfl (lv_at hl 0 rfl) ?_
    refine z_get (c0 := 12) (i0 := 0) (k0 := 0) (T := TX12) (v := .int (zI σ 12 0 0)) S hG (hZ.2.1 (12, 0) (by decide)) rfl inlX12 (by decide) rfl zw_276 rfl dX12_day_2 ?_
    refine lv_icmp_le (tgt := 15) hx hb dX12_day_5 (by decide) (fun c1 => ?_) (fun c1 => ?_)
    · have hf := zif_p c1 hf
      refine lv_iconst (v := 0) hx hb dX12_day_15 (by decide) ?_
      cases hf
      exact z_zret S hG hS hlocks (Or.inl rfl) hr dX12_day_16
    · have hf := zif_n c1 hf
      refine lv_iload_n hx hb dX12_day_8 rfl (lv_at hl 1 rfl) ?_
      refine lv_sipush (v := 1000) hx hb dX12_day_9 (by decide) ?_
      refine lv_icmp_le (tgt := 17) hx hb dX12_day_12 (by decide) (fun c2 => ?_) (fun c2 => ?_)
      · have hf := zif_p c2 hf
        refine lv_aload_n hx hb dX12_day_17 rfl (lv_at hl 0 rfl) ?_
        refine lv_iload_n hx hb dX12_day_18 rfl (lv_at hl 1 rfl) ?_
        refine z_putI (c0 := 12) (i0 := 0) (k0 := 0) (T := TX12) S hG hS tyX12 tyX12_ok nmX12 (hZ.2.1 (12, 0) (by decide)) rfl inlX12 (by decide) rfl rfl zw_276 (by decide +kernel) rfl dX12_day_19 (fun H locs hG hS => ?_)
        obtain ⟨σ3, eσ3, hf⟩ := zlt_s hf
        rw [← eσ3] at hG
        refine lv_aload_n hx hb dX12_day_22 rfl (lv_at hl 0 rfl) ?_
        refine lv_dup hx hb dX12_day_23 rfl ?_
        refine z_get (c0 := 12) (i0 := 0) (k0 := 2) (T := TX12) (v := .int (zI σ3 12 0 2)) S hG (hZ.2.1 (12, 0) (by decide)) rfl inlX12 (by decide) rfl zw_222 rfl dX12_day_24 ?_
        refine lv_iconst (v := 1) hx hb dX12_day_27 (by decide) ?_
        refine lv_iadd hx hb dX12_day_28 ?_
        refine z_putI (c0 := 12) (i0 := 0) (k0 := 2) (T := TX12) S hG hS tyX12 tyX12_ok nmX12 (hZ.2.1 (12, 0) (by decide)) rfl inlX12 (by decide) rfl rfl zw_222 (by decide +kernel) rfl dX12_day_29 (fun H locs hG hS => ?_)
        obtain ⟨σ4, eσ4, hf⟩ := zlt_s hf
        rw [← eσ4] at hG
        refine lv_iconst (v := 1) hx hb dX12_day_32 (by decide) ?_
        cases hf
        exact z_zret S hG hS hlocks (Or.inr rfl) hr dX12_day_33
      · have hf := zif_n c2 hf
        refine lv_iconst (v := 0) hx hb dX12_day_15 (by decide) ?_
        cases hf
        exact z_zret S hG hS hlocks (Or.inl rfl) hr dX12_day_16
  exact hK0 _ _ ls hG hS hl hf
set_option maxRecDepth 100000 in
set_option maxHeartbeats 4000000 in
theorem c_X12_sun (l : Launch) (D : va_G) (aC : Nat → ClassId) (zs : Nat × Nat) (A : Nat → Prop) (nl : List (Nat × Nat × Nat)) (ad : Nat → Nat → Nat → Nat) (σ : zM) (x1 : Int32) (x2 : Int32) (r : Int32) (σ' : zM)  (hf : f_X12_sun σ x1 x2 = some (r, σ')) : Met l yX12_sun (Cond.code yX12_sun cX12_sun 3 (some .boolean) :: wsL_law) ({ frames := 1, cells := 0, slots := 0, locals := 22 } : Room) (zP D aC zs zfM A nl ad σ [.ref (ad 12 0 0), .int x1, .int x2]) (zQ (some (.int r)) (fun t => zG D aC A nl ad σ' t t.heap ∧ (r = 0 ∨ r = 1)) A) 0 0 A := by
  refine Met.ofW (cc := cX12_sun) (maxL := 3) (ret := (some .boolean)) (by decide) rfl ?_
  intro p e s m args below meth c s₁ B hml hv
  obtain ⟨rfl, hG, hZ⟩ := hv
  have hx := B.exec
  have hb := B.bytes
  have hr := B.returns
  have hts : ∀ w ∈ wsL_law, w.before ([.ref (ad 12 0 0), .int x1, .int x2] : List Value).toArray s = true := fun w h => (atoms_spec B.pre) w (List.mem_cons_of_mem _ h)
  have hown : s.vm.findClass RX12 = some m.cls := findClass_of_methodNamed B.named
  have hlocks := B.notSynchronized
  have S : zS p m c cX12_sun 3 s ([.ref (ad 12 0 0), .int x1, .int x2] : List Value).toArray RX12 := ⟨hx, hb, hml, hown, hts⟩
  have hS : va_S A s.heap s.heap [] := va_S.rf
  have hl := lv_entry ([.ref (ad 12 0 0), .int x1, .int x2]) (n := 3) (Nat.le_of_ble_eq_true rfl)
  rw [lg_entry_eq]
  generalize (lg_sl ([.ref (ad 12 0 0), .int x1, .int x2]) ++ List.replicate (3 - (lg_sl ([.ref (ad 12 0 0), .int x1, .int x2])).length) Slot.unset).toArray = ls at hl ⊢
  have hl : lv_has ls 3 [(0, .ref (ad 12 0 0)), (1, .int x1), (2, .int x2)] := hl
  generalize hargs : ([.ref (ad 12 0 0), .int x1, .int x2] : List Value).toArray = args at S hts ⊢
  clear hargs
  have hK0 : ∀ (H : Heap) (locs : List Loc) (ls : Array Slot), zG D aC A nl ad σ s H → va_S A s.heap H locs → lv_has ls 3 [(0, .ref (ad 12 0 0)), (1, .int x1), (2, .int x2)] → f_X12_sun σ x1 x2 = some (r, σ') → zWk p l e ({ frames := 1, cells := 0, slots := 0, locals := 22 } : Room) s m args below meth c A (some (.int r)) (fun t => zG D aC A nl ad σ' t t.heap ∧ (r = 0 ∨ r = 1)) H locs (F0 m 0 ls []) := by
    intro H locs ls hG hS hl hf
    unfold f_X12_sun at hf
    refine lv_iload_n hx hb dX12_sun_0 rfl (lv_at hl 1 rfl) ?_
    refine lv_iconst (v := 0) hx hb dX12_sun_1 (by decide) ?_
    refine lv_iconst (v := 3) hx hb dX12_sun_2 (by decide) ?_
    refine z_callS (n := 3) (rest := []) (st1 := [.int (f_X12_isIn x1 0 3)]) S hG hS hZ (fun _ h => h) (c_X12_isIn l D aC zs A nl ad σ x1 0 3 (f_X12_isIn x1 0 3) rfl) zw_512 zw_513 zw_5 zw_514 (by decide +kernel) ⟨rfl, rfl⟩ ⟨(Nat.le_of_ble_eq_true rfl), (Nat.le_of_ble_eq_true rfl)⟩ hl.1 rfl (by rfl) (by rfl) (Nat.le_of_ble_eq_true rfl) dX12_sun_3 ⟨Nat.zero_le _, Nat.zero_le _⟩ (fun H locs hz1 hG hS => ?_)
    refine lv_if_eq (tgt := 19) hx hb dX12_sun_6 (by decide) (fun c2 => ?_) (fun c2 => ?_)
    · have hf := zif_p c2 hf
      refine lv_iconst (v := 0) hx hb dX12_sun_19 (by decide) ?_
      cases hf
      exact z_zret S hG hS hlocks (Or.inl rfl) hr dX12_sun_20
    · have hf := zif_n c2 hf
      refine lv_iload_n hx hb dX12_sun_9 rfl (lv_at hl 2 rfl) ?_
      refine lv_iconst (v := 0) hx hb dX12_sun_10 (by decide) ?_
      refine lv_bipush (v := 12) hx hb dX12_sun_11 (by decide) ?_
      refine z_callS (n := 3) (rest := []) (st1 := [.int (f_X12_isIn x2 0 12)]) S hG hS hZ (fun _ h => h) (c_X12_isIn l D aC zs A nl ad σ x2 0 12 (f_X12_isIn x2 0 12) rfl) zw_512 zw_513 zw_5 zw_514 (by decide +kernel) ⟨rfl, rfl⟩ ⟨(Nat.le_of_ble_eq_true rfl), (Nat.le_of_ble_eq_true rfl)⟩ hl.1 rfl (by rfl) (by rfl) (Nat.le_of_ble_eq_true rfl) dX12_sun_13 ⟨Nat.zero_le _, Nat.zero_le _⟩ (fun H locs hz3 hG hS => ?_)
      refine lv_if_ne (tgt := 21) hx hb dX12_sun_16 (by decide) (fun c4 => ?_) (fun c4 => ?_)
      · have hf := zif_n c4 hf
        refine lv_aload_n hx hb dX12_sun_21 rfl (lv_at hl 0 rfl) ?_
        refine z_get (c0 := 12) (i0 := 0) (k0 := 6) (T := TX12) (v := .ref (ad 12 0 7)) S hG (hZ.2.1 (12, 0) (by decide)) rfl inlX12 (by decide) rfl zw_226 rfl dX12_sun_22 ?_
        refine lv_iload_n hx hb dX12_sun_25 rfl (lv_at hl 1 rfl) ?_
        refine lv_iload_n hx hb dX12_sun_26 rfl (lv_at hl 2 rfl) ?_
        obtain ⟨i5, hi5, hf⟩ := zbi hf
        refine z_iast (c0 := 12) (i0 := 0) (k0 := 6) S hG hS (hZ.2.1 (12, 0) (by decide)) (by decide) rfl hi5 dX12_sun_27 (fun H locs hG hS => ?_)
        obtain ⟨σ6, eσ6, hf⟩ := zlt_s hf
        rw [← eσ6] at hG
        refine lv_aload_n hx hb dX12_sun_28 rfl (lv_at hl 0 rfl) ?_
        refine lv_dup hx hb dX12_sun_29 rfl ?_
        refine z_get (c0 := 12) (i0 := 0) (k0 := 2) (T := TX12) (v := .int (zI σ6 12 0 2)) S hG (hZ.2.1 (12, 0) (by decide)) rfl inlX12 (by decide) rfl zw_222 rfl dX12_sun_30 ?_
        refine lv_iconst (v := 1) hx hb dX12_sun_33 (by decide) ?_
        refine lv_iadd hx hb dX12_sun_34 ?_
        refine z_putI (c0 := 12) (i0 := 0) (k0 := 2) (T := TX12) S hG hS tyX12 tyX12_ok nmX12 (hZ.2.1 (12, 0) (by decide)) rfl inlX12 (by decide) rfl rfl zw_222 (by decide +kernel) rfl dX12_sun_35 (fun H locs hG hS => ?_)
        obtain ⟨σ7, eσ7, hf⟩ := zlt_s hf
        rw [← eσ7] at hG
        refine lv_iconst (v := 1) hx hb dX12_sun_38 (by decide) ?_
        cases hf
        exact z_zret S hG hS hlocks (Or.inr rfl) hr dX12_sun_39
      · have hf := zif_p c4 hf
        refine lv_iconst (v := 0) hx hb dX12_sun_19 (by decide) ?_
        cases hf
        exact z_zret S hG hS hlocks (Or.inl rfl) hr dX12_sun_20
  exact hK0 _ _ ls hG hS hl hf
set_option maxRecDepth 100000 in
set_option maxHeartbeats 4000000 in
theorem c_X12_scheme (l : Launch) (D : va_G) (aC : Nat → ClassId) (zs : Nat × Nat) (A : Nat → Prop) (nl : List (Nat × Nat × Nat)) (ad : Nat → Nat → Nat → Nat) (σ : zM) (x1 : Int32) (r : Int32) (σ' : zM)  (hf : f_X12_scheme σ x1 = some (r, σ')) : Met l yX12_scheme (Cond.code yX12_scheme cX12_scheme 2 (some .int) :: wsL_law) ({ frames := 1, cells := 0, slots := 0, locals := 22 } : Room) (zP D aC zs zfM A nl ad σ [.ref (ad 12 0 0), .int x1]) (zQ (some (.int r)) (fun t => zG D aC A nl ad σ' t t.heap ∧ True) A) 0 0 A := by
  refine Met.ofW (cc := cX12_scheme) (maxL := 2) (ret := (some .int)) (by decide) rfl ?_
  intro p e s m args below meth c s₁ B hml hv
  obtain ⟨rfl, hG, hZ⟩ := hv
  have hx := B.exec
  have hb := B.bytes
  have hr := B.returns
  have hts : ∀ w ∈ wsL_law, w.before ([.ref (ad 12 0 0), .int x1] : List Value).toArray s = true := fun w h => (atoms_spec B.pre) w (List.mem_cons_of_mem _ h)
  have hown : s.vm.findClass RX12 = some m.cls := findClass_of_methodNamed B.named
  have hlocks := B.notSynchronized
  have S : zS p m c cX12_scheme 2 s ([.ref (ad 12 0 0), .int x1] : List Value).toArray RX12 := ⟨hx, hb, hml, hown, hts⟩
  have hS : va_S A s.heap s.heap [] := va_S.rf
  have hl := lv_entry ([.ref (ad 12 0 0), .int x1]) (n := 2) (Nat.le_of_ble_eq_true rfl)
  rw [lg_entry_eq]
  generalize (lg_sl ([.ref (ad 12 0 0), .int x1]) ++ List.replicate (2 - (lg_sl ([.ref (ad 12 0 0), .int x1])).length) Slot.unset).toArray = ls at hl ⊢
  have hl : lv_has ls 2 [(0, .ref (ad 12 0 0)), (1, .int x1)] := hl
  generalize hargs : ([.ref (ad 12 0 0), .int x1] : List Value).toArray = args at S hts ⊢
  clear hargs
  have hK0 : ∀ (H : Heap) (locs : List Loc) (ls : Array Slot), zG D aC A nl ad σ s H → va_S A s.heap H locs → lv_has ls 2 [(0, .ref (ad 12 0 0)), (1, .int x1)] → f_X12_scheme σ x1 = some (r, σ') → zWk p l e ({ frames := 1, cells := 0, slots := 0, locals := 22 } : Room) s m args below meth c A (some (.int r)) (fun t => zG D aC A nl ad σ' t t.heap ∧ True) H locs (F0 m 0 ls []) := by
    intro H locs ls hG hS hl hf
    unfold f_X12_scheme at hf
    refine lv_iload_n hx hb dX12_scheme_0 rfl (lv_at hl 1 rfl) ?_
    refine lv_iconst (v := 0) hx hb dX12_scheme_1 (by decide) ?_
    refine lv_bipush (v := 39) hx hb dX12_scheme_2 (by decide) ?_
    refine z_callS (n := 3) (rest := []) (st1 := [.int (f_X12_isIn x1 0 39)]) S hG hS hZ (fun _ h => h) (c_X12_isIn l D aC zs A nl ad σ x1 0 39 (f_X12_isIn x1 0 39) rfl) zw_512 zw_513 zw_5 zw_514 (by decide +kernel) ⟨rfl, rfl⟩ ⟨(Nat.le_of_ble_eq_true rfl), (Nat.le_of_ble_eq_true rfl)⟩ hl.1 rfl (by rfl) (by rfl) (Nat.le_of_ble_eq_true rfl) dX12_scheme_4 ⟨Nat.zero_le _, Nat.zero_le _⟩ (fun H locs hz1 hG hS => ?_)
    refine lv_if_eq (tgt := 19) hx hb dX12_scheme_7 (by decide) (fun c2 => ?_) (fun c2 => ?_)
    · have hf := zif_p c2 hf
      refine lv_iconst (v := (-1)) hx hb dX12_scheme_19 (by decide) ?_
      cases hf
      exact z_iret S hG hS hlocks trivial hr dX12_scheme_20
    · have hf := zif_n c2 hf
      refine lv_aload_n hx hb dX12_scheme_10 rfl (lv_at hl 0 rfl) ?_
      refine z_get (c0 := 12) (i0 := 0) (k0 := 1) (T := TX12) (v := .int (zI σ 12 0 1)) S hG (hZ.2.1 (12, 0) (by decide)) rfl inlX12 (by decide) rfl zw_799 rfl dX12_scheme_11 ?_
      refine lv_bipush (v := 10) hx hb dX12_scheme_14 (by decide) ?_
      refine lv_icmp_ne (tgt := 21) hx hb dX12_scheme_16 (by decide) (fun c3 => ?_) (fun c3 => ?_)
      · have hf := zif_n c3 hf
        refine lv_aload_n hx hb dX12_scheme_21 rfl (lv_at hl 0 rfl) ?_
        refine z_get (c0 := 12) (i0 := 0) (k0 := 4) (T := TX12) (v := .ref (ad 12 0 5)) S hG (hZ.2.1 (12, 0) (by decide)) rfl inlX12 (by decide) rfl zw_224 rfl dX12_scheme_22 ?_
        refine lv_aload_n hx hb dX12_scheme_25 rfl (lv_at hl 0 rfl) ?_
        refine z_get (c0 := 12) (i0 := 0) (k0 := 1) (T := TX12) (v := .int (zI σ 12 0 1)) S hG (hZ.2.1 (12, 0) (by decide)) rfl inlX12 (by decide) rfl zw_799 rfl dX12_scheme_26 ?_
        refine lv_iload_n hx hb dX12_scheme_29 rfl (lv_at hl 1 rfl) ?_
        obtain ⟨i4, hi4, hf⟩ := zbi hf
        refine z_iast (c0 := 12) (i0 := 0) (k0 := 4) S hG hS (hZ.2.1 (12, 0) (by decide)) (by decide) rfl hi4 dX12_scheme_30 (fun H locs hG hS => ?_)
        obtain ⟨σ5, eσ5, hf⟩ := zlt_s hf
        rw [← eσ5] at hG
        refine lv_aload_n hx hb dX12_scheme_31 rfl (lv_at hl 0 rfl) ?_
        refine z_get (c0 := 12) (i0 := 0) (k0 := 5) (T := TX12) (v := .ref (ad 12 0 6)) S hG (hZ.2.1 (12, 0) (by decide)) rfl inlX12 (by decide) rfl zw_225 rfl dX12_scheme_32 ?_
        refine lv_aload_n hx hb dX12_scheme_35 rfl (lv_at hl 0 rfl) ?_
        refine z_get (c0 := 12) (i0 := 0) (k0 := 1) (T := TX12) (v := .int (zI σ5 12 0 1)) S hG (hZ.2.1 (12, 0) (by decide)) rfl inlX12 (by decide) rfl zw_799 rfl dX12_scheme_36 ?_
        refine lv_iconst (v := (-1)) hx hb dX12_scheme_39 (by decide) ?_
        obtain ⟨i6, hi6, hf⟩ := zbi hf
        refine z_iast (c0 := 12) (i0 := 0) (k0 := 5) S hG hS (hZ.2.1 (12, 0) (by decide)) (by decide) rfl hi6 dX12_scheme_40 (fun H locs hG hS => ?_)
        obtain ⟨σ7, eσ7, hf⟩ := zlt_s hf
        rw [← eσ7] at hG
        refine lv_aload_n hx hb dX12_scheme_41 rfl (lv_at hl 0 rfl) ?_
        refine lv_dup hx hb dX12_scheme_42 rfl ?_
        refine z_get (c0 := 12) (i0 := 0) (k0 := 1) (T := TX12) (v := .int (zI σ7 12 0 1)) S hG (hZ.2.1 (12, 0) (by decide)) rfl inlX12 (by decide) rfl zw_799 rfl dX12_scheme_43 ?_
        refine lv_iconst (v := 1) hx hb dX12_scheme_46 (by decide) ?_
        refine lv_iadd hx hb dX12_scheme_47 ?_
        refine z_putI (c0 := 12) (i0 := 0) (k0 := 1) (T := TX12) S hG hS tyX12 tyX12_ok nmX12 (hZ.2.1 (12, 0) (by decide)) rfl inlX12 (by decide) rfl rfl zw_799 (by decide +kernel) rfl dX12_scheme_48 (fun H locs hG hS => ?_)
        obtain ⟨σ8, eσ8, hf⟩ := zlt_s hf
        rw [← eσ8] at hG
        refine lv_aload_n hx hb dX12_scheme_51 rfl (lv_at hl 0 rfl) ?_
        refine z_get (c0 := 12) (i0 := 0) (k0 := 1) (T := TX12) (v := .int (zI σ8 12 0 1)) S hG (hZ.2.1 (12, 0) (by decide)) rfl inlX12 (by decide) rfl zw_799 rfl dX12_scheme_52 ?_
        refine lv_iconst (v := 1) hx hb dX12_scheme_55 (by decide) ?_
        refine lv_isub hx hb dX12_scheme_56 ?_
        cases hf
        exact z_iret S hG hS hlocks trivial hr dX12_scheme_57
      · have hf := zif_p c3 hf
        refine lv_iconst (v := (-1)) hx hb dX12_scheme_19 (by decide) ?_
        cases hf
        exact z_iret S hG hS hlocks trivial hr dX12_scheme_20
  exact hK0 _ _ ls hG hS hl hf
set_option maxRecDepth 100000 in
set_option maxHeartbeats 4000000 in
theorem c_X12_cell (l : Launch) (D : va_G) (aC : Nat → ClassId) (zs : Nat × Nat) (A : Nat → Prop) (nl : List (Nat × Nat × Nat)) (ad : Nat → Nat → Nat → Nat) (σ : zM) (x1 : Int32) (x2 : Int32) (x3 : Int32) (x4 : Int32) (r : Int32)  (hf : f_X12_cell σ x1 x2 x3 x4 = some r) : Met l yX12_cell (Cond.code yX12_cell cX12_cell 5 (some .int) :: wsL_law) ({ frames := 2, cells := 0, slots := 0, locals := 44 } : Room) (zP D aC zs zfM A nl ad σ [.ref (ad 12 0 0), .int x1, .int x2, .int x3, .int x4]) (zQ (some (.int r)) (fun t => zG D aC A nl ad σ t t.heap ∧ True) A) 0 0 A := by
  refine Met.ofW (cc := cX12_cell) (maxL := 5) (ret := (some .int)) (by decide) rfl ?_
  intro p e s m args below meth c s₁ B hml hv
  obtain ⟨rfl, hG, hZ⟩ := hv
  have hx := B.exec
  have hb := B.bytes
  have hr := B.returns
  have hts : ∀ w ∈ wsL_law, w.before ([.ref (ad 12 0 0), .int x1, .int x2, .int x3, .int x4] : List Value).toArray s = true := fun w h => (atoms_spec B.pre) w (List.mem_cons_of_mem _ h)
  have hown : s.vm.findClass RX12 = some m.cls := findClass_of_methodNamed B.named
  have hlocks := B.notSynchronized
  have S : zS p m c cX12_cell 5 s ([.ref (ad 12 0 0), .int x1, .int x2, .int x3, .int x4] : List Value).toArray RX12 := ⟨hx, hb, hml, hown, hts⟩
  have hS : va_S A s.heap s.heap [] := va_S.rf
  have hl := lv_entry ([.ref (ad 12 0 0), .int x1, .int x2, .int x3, .int x4]) (n := 5) (Nat.le_of_ble_eq_true rfl)
  rw [lg_entry_eq]
  generalize (lg_sl ([.ref (ad 12 0 0), .int x1, .int x2, .int x3, .int x4]) ++ List.replicate (5 - (lg_sl ([.ref (ad 12 0 0), .int x1, .int x2, .int x3, .int x4])).length) Slot.unset).toArray = ls at hl ⊢
  have hl : lv_has ls 5 [(0, .ref (ad 12 0 0)), (1, .int x1), (2, .int x2), (3, .int x3), (4, .int x4)] := hl
  generalize hargs : ([.ref (ad 12 0 0), .int x1, .int x2, .int x3, .int x4] : List Value).toArray = args at S hts ⊢
  clear hargs
  have hK0 : ∀ (H : Heap) (locs : List Loc) (ls : Array Slot), zG D aC A nl ad σ s H → va_S A s.heap H locs → lv_has ls 5 [(0, .ref (ad 12 0 0)), (1, .int x1), (2, .int x2), (3, .int x3), (4, .int x4)] → f_X12_cell σ x1 x2 x3 x4 = some r → zWk p l e ({ frames := 2, cells := 0, slots := 0, locals := 44 } : Room) s m args below meth c A (some (.int r)) (fun t => zG D aC A nl ad σ t t.heap ∧ True) H locs (F0 m 0 ls []) := by
    intro H locs ls hG hS hl hf
    unfold f_X12_cell at hf
    refine lv_aload_n hx hb dX12_cell_0 rfl (lv_at hl 0 rfl) ?_
    refine lv_iload_n hx hb dX12_cell_1 rfl (lv_at hl 1 rfl) ?_
    refine z_callV (n := 1) (rest := []) (st1 := [.int (f_X12_isScheme σ x1)]) (c0 := 12) (i0 := 0) (hZ.2.1 (12, 0) (by decide)) (by rfl) S hG hS hZ (fun _ h => h) (c_X12_isScheme l D aC zs A nl ad σ x1 (f_X12_isScheme σ x1) rfl) zw_835 zw_836 zw_837 zw_5 zw_838 (by decide +kernel) ⟨rfl, rfl⟩ ⟨(Nat.le_of_ble_eq_true rfl), (Nat.le_of_ble_eq_true rfl)⟩ hl.1 rfl (by rfl) (by rfl) (Nat.le_of_ble_eq_true rfl) dX12_cell_2 ⟨Nat.zero_le _, Nat.zero_le _⟩ (fun H locs hz1 hG hS => ?_)
    refine lv_if_eq (tgt := 39) hx hb dX12_cell_5 (by decide) (fun c2 => ?_) (fun c2 => ?_)
    · have hf := zif_p c2 hf
      refine lv_iconst (v := (-1)) hx hb dX12_cell_39 (by decide) ?_
      cases hf
      exact z_iret S hG hS hlocks trivial hr dX12_cell_40
    · have hf := zif_n c2 hf
      refine lv_iload_n hx hb dX12_cell_8 rfl (lv_at hl 2 rfl) ?_
      refine lv_iload_n hx hb dX12_cell_9 rfl (lv_at hl 3 rfl) ?_
      refine lv_iload hx hb dX12_cell_10 (lv_at hl 4 rfl) ?_
      refine z_callS (n := 3) (rest := []) (st1 := [.int (f_X12_isSpot x2 x3 x4)]) S hG hS hZ (fun _ h => h) (c_X12_isSpot l D aC zs A nl ad σ x2 x3 x4 (f_X12_isSpot x2 x3 x4) rfl) zw_839 zw_840 zw_5 zw_841 (by decide +kernel) ⟨rfl, rfl⟩ ⟨(Nat.le_of_ble_eq_true rfl), (Nat.le_of_ble_eq_true rfl)⟩ hl.1 rfl (by rfl) (by rfl) (Nat.le_of_ble_eq_true rfl) dX12_cell_12 ⟨Nat.zero_le _, Nat.zero_le _⟩ (fun H locs hz3 hG hS => ?_)
      refine lv_if_eq (tgt := 39) hx hb dX12_cell_15 (by decide) (fun c4 => ?_) (fun c4 => ?_)
      · have hf := zif_p c4 hf
        refine lv_iconst (v := (-1)) hx hb dX12_cell_39 (by decide) ?_
        cases hf
        exact z_iret S hG hS hlocks trivial hr dX12_cell_40
      · have hf := zif_n c4 hf
        refine lv_aload_n hx hb dX12_cell_18 rfl (lv_at hl 0 rfl) ?_
        refine z_get (c0 := 12) (i0 := 0) (k0 := 3) (T := TX12) (v := .ref (ad 12 0 4)) S hG (hZ.2.1 (12, 0) (by decide)) rfl inlX12 (by decide) rfl zw_223 rfl dX12_cell_19 ?_
        refine lv_sipush (v := 160) hx hb dX12_cell_22 (by decide) ?_
        refine lv_iload_n hx hb dX12_cell_25 rfl (lv_at hl 1 rfl) ?_
        refine lv_imul hx hb dX12_cell_26 ?_
        refine lv_iload_n hx hb dX12_cell_27 rfl (lv_at hl 2 rfl) ?_
        refine lv_iload_n hx hb dX12_cell_28 rfl (lv_at hl 3 rfl) ?_
        refine lv_iload hx hb dX12_cell_29 (lv_at hl 4 rfl) ?_
        refine z_callS (n := 3) (rest := [.int (160 * x1), .ref (ad 12 0 4)]) (st1 := [.int (f_X12_spot x2 x3 x4), .int (160 * x1), .ref (ad 12 0 4)]) S hG hS hZ (fun _ h => h) (c_X12_spot l D aC zs A nl ad σ x2 x3 x4 (f_X12_spot x2 x3 x4) rfl) zw_842 zw_843 zw_5 zw_844 (by decide +kernel) ⟨rfl, rfl⟩ ⟨(Nat.le_of_ble_eq_true rfl), (Nat.le_of_ble_eq_true rfl)⟩ hl.1 rfl (by rfl) (by rfl) (Nat.le_of_ble_eq_true rfl) dX12_cell_31 ⟨Nat.zero_le _, Nat.zero_le _⟩ (fun H locs hz5 hG hS => ?_)
        refine lv_iadd hx hb dX12_cell_34 ?_
        obtain ⟨i6, hi6, hf⟩ := zbi hf
        refine z_iald (c0 := 12) (i0 := 0) (k0 := 3) S hG (hZ.2.1 (12, 0) (by decide)) (by decide) rfl hi6 dX12_cell_35 ?_
        refine lv_goto (tgt := 40) hx hb dX12_cell_36 (by decide) ?_
        cases hf
        exact z_iret S hG hS hlocks trivial hr dX12_cell_40
  exact hK0 _ _ ls hG hS hl hf
set_option maxRecDepth 100000 in
set_option maxHeartbeats 4000000 in
theorem c_X12_hand (l : Launch) (D : va_G) (aC : Nat → ClassId) (zs : Nat × Nat) (A : Nat → Prop) (nl : List (Nat × Nat × Nat)) (ad : Nat → Nat → Nat → Nat) (σ : zM) (x1 : Int32) (r : Int32) (σ' : zM)  (hf : f_X12_hand σ x1 = some (r, σ')) : Met l yX12_hand (Cond.code yX12_hand cX12_hand 2 (some .boolean) :: wsL_law) ({ frames := 2, cells := 0, slots := 0, locals := 43 } : Room) (zP D aC zs zfM A nl ad σ [.ref (ad 12 0 0), .int x1]) (zQ (some (.int r)) (fun t => zG D aC A nl ad σ' t t.heap ∧ (r = 0 ∨ r = 1)) A) 0 0 A := by
  refine Met.ofW (cc := cX12_hand) (maxL := 2) (ret := (some .boolean)) (by decide) rfl ?_
  intro p e s m args below meth c s₁ B hml hv
  obtain ⟨rfl, hG, hZ⟩ := hv
  have hx := B.exec
  have hb := B.bytes
  have hr := B.returns
  have hts : ∀ w ∈ wsL_law, w.before ([.ref (ad 12 0 0), .int x1] : List Value).toArray s = true := fun w h => (atoms_spec B.pre) w (List.mem_cons_of_mem _ h)
  have hown : s.vm.findClass RX12 = some m.cls := findClass_of_methodNamed B.named
  have hlocks := B.notSynchronized
  have S : zS p m c cX12_hand 2 s ([.ref (ad 12 0 0), .int x1] : List Value).toArray RX12 := ⟨hx, hb, hml, hown, hts⟩
  have hS : va_S A s.heap s.heap [] := va_S.rf
  have hl := lv_entry ([.ref (ad 12 0 0), .int x1]) (n := 2) (Nat.le_of_ble_eq_true rfl)
  rw [lg_entry_eq]
  generalize (lg_sl ([.ref (ad 12 0 0), .int x1]) ++ List.replicate (2 - (lg_sl ([.ref (ad 12 0 0), .int x1])).length) Slot.unset).toArray = ls at hl ⊢
  have hl : lv_has ls 2 [(0, .ref (ad 12 0 0)), (1, .int x1)] := hl
  generalize hargs : ([.ref (ad 12 0 0), .int x1] : List Value).toArray = args at S hts ⊢
  clear hargs
  have hK0 : ∀ (H : Heap) (locs : List Loc) (ls : Array Slot), zG D aC A nl ad σ s H → va_S A s.heap H locs → lv_has ls 2 [(0, .ref (ad 12 0 0)), (1, .int x1)] → f_X12_hand σ x1 = some (r, σ') → zWk p l e ({ frames := 2, cells := 0, slots := 0, locals := 43 } : Room) s m args below meth c A (some (.int r)) (fun t => zG D aC A nl ad σ' t t.heap ∧ (r = 0 ∨ r = 1)) H locs (F0 m 0 ls []) := by
    intro H locs ls hG hS hl hf
    unfold f_X12_hand at hf
    refine lv_aload_n hx hb dX12_hand_0 rfl (lv_at hl 0 rfl) ?_
    refine lv_iload_n hx hb dX12_hand_1 rfl (lv_at hl 1 rfl) ?_
    refine z_callV (n := 1) (rest := []) (st1 := [.int (f_X12_isScheme σ x1)]) (c0 := 12) (i0 := 0) (hZ.2.1 (12, 0) (by decide)) (by rfl) S hG hS hZ (fun _ h => h) (c_X12_isScheme l D aC zs A nl ad σ x1 (f_X12_isScheme σ x1) rfl) zw_835 zw_836 zw_837 zw_5 zw_838 (by decide +kernel) ⟨rfl, rfl⟩ ⟨(Nat.le_of_ble_eq_true rfl), (Nat.le_of_ble_eq_true rfl)⟩ hl.1 rfl (by rfl) (by rfl) (Nat.le_of_ble_eq_true rfl) dX12_hand_2 ⟨Nat.zero_le _, Nat.zero_le _⟩ (fun H locs hz1 hG hS => ?_)
    refine lv_if_eq (tgt := 18) hx hb dX12_hand_5 (by decide) (fun c2 => ?_) (fun c2 => ?_)
    · have hf := zif_p c2 hf
      refine lv_iconst (v := 0) hx hb dX12_hand_18 (by decide) ?_
      cases hf
      exact z_zret S hG hS hlocks (Or.inl rfl) hr dX12_hand_19
    · have hf := zif_n c2 hf
      refine lv_aload_n hx hb dX12_hand_8 rfl (lv_at hl 0 rfl) ?_
      refine z_get (c0 := 12) (i0 := 0) (k0 := 5) (T := TX12) (v := .ref (ad 12 0 6)) S hG (hZ.2.1 (12, 0) (by decide)) rfl inlX12 (by decide) rfl zw_225 rfl dX12_hand_9 ?_
      refine lv_iload_n hx hb dX12_hand_12 rfl (lv_at hl 1 rfl) ?_
      obtain ⟨i3, hi3, hf⟩ := zbi hf
      refine z_iald (c0 := 12) (i0 := 0) (k0 := 5) S hG (hZ.2.1 (12, 0) (by decide)) (by decide) rfl hi3 dX12_hand_13 ?_
      refine lv_iconst (v := (-1)) hx hb dX12_hand_14 (by decide) ?_
      refine lv_icmp_eq (tgt := 20) hx hb dX12_hand_15 (by decide) (fun c4 => ?_) (fun c4 => ?_)
      · have hf := zif_p c4 hf
        refine lv_aload_n hx hb dX12_hand_20 rfl (lv_at hl 0 rfl) ?_
        refine z_get (c0 := 12) (i0 := 0) (k0 := 5) (T := TX12) (v := .ref (ad 12 0 6)) S hG (hZ.2.1 (12, 0) (by decide)) rfl inlX12 (by decide) rfl zw_225 rfl dX12_hand_21 ?_
        refine lv_iload_n hx hb dX12_hand_24 rfl (lv_at hl 1 rfl) ?_
        refine lv_aload_n hx hb dX12_hand_25 rfl (lv_at hl 0 rfl) ?_
        refine z_get (c0 := 12) (i0 := 0) (k0 := 0) (T := TX12) (v := .int (zI σ 12 0 0)) S hG (hZ.2.1 (12, 0) (by decide)) rfl inlX12 (by decide) rfl zw_276 rfl dX12_hand_26 ?_
        obtain ⟨i5, hi5, hf⟩ := zbi hf
        refine z_iast (c0 := 12) (i0 := 0) (k0 := 5) S hG hS (hZ.2.1 (12, 0) (by decide)) (by decide) rfl hi5 dX12_hand_29 (fun H locs hG hS => ?_)
        obtain ⟨σ6, eσ6, hf⟩ := zlt_s hf
        rw [← eσ6] at hG
        refine lv_aload_n hx hb dX12_hand_30 rfl (lv_at hl 0 rfl) ?_
        refine lv_dup hx hb dX12_hand_31 rfl ?_
        refine z_get (c0 := 12) (i0 := 0) (k0 := 2) (T := TX12) (v := .int (zI σ6 12 0 2)) S hG (hZ.2.1 (12, 0) (by decide)) rfl inlX12 (by decide) rfl zw_222 rfl dX12_hand_32 ?_
        refine lv_iconst (v := 1) hx hb dX12_hand_35 (by decide) ?_
        refine lv_iadd hx hb dX12_hand_36 ?_
        refine z_putI (c0 := 12) (i0 := 0) (k0 := 2) (T := TX12) S hG hS tyX12 tyX12_ok nmX12 (hZ.2.1 (12, 0) (by decide)) rfl inlX12 (by decide) rfl rfl zw_222 (by decide +kernel) rfl dX12_hand_37 (fun H locs hG hS => ?_)
        obtain ⟨σ7, eσ7, hf⟩ := zlt_s hf
        rw [← eσ7] at hG
        refine lv_iconst (v := 1) hx hb dX12_hand_40 (by decide) ?_
        cases hf
        exact z_zret S hG hS hlocks (Or.inr rfl) hr dX12_hand_41
      · have hf := zif_n c4 hf
        refine lv_iconst (v := 0) hx hb dX12_hand_18 (by decide) ?_
        cases hf
        exact z_zret S hG hS hlocks (Or.inl rfl) hr dX12_hand_19
  exact hK0 _ _ ls hG hS hl hf
set_option maxRecDepth 100000 in
set_option maxHeartbeats 4000000 in
theorem c_X12_beside (l : Launch) (D : va_G) (aC : Nat → ClassId) (zs : Nat × Nat) (A : Nat → Prop) (nl : List (Nat × Nat × Nat)) (ad : Nat → Nat → Nat → Nat) (σ : zM) (x0 : Int32) (x1 : Int32) (r : Int32)  (hf : f_X12_beside x0 x1 = r) : Met l yX12_beside (Cond.code yX12_beside cX12_beside 4 (some .int) :: wsL_law) ({ frames := 1, cells := 0, slots := 0, locals := 22 } : Room) (zP D aC zs zfM A nl ad σ [.int x0, .int x1]) (zQ (some (.int r)) (fun t => zG D aC A nl ad σ t t.heap ∧ True) A) 0 0 A := by
  refine Met.ofW (cc := cX12_beside) (maxL := 4) (ret := (some .int)) (by decide) rfl ?_
  intro p e s m args below meth c s₁ B hml hv
  obtain ⟨rfl, hG, hZ⟩ := hv
  have hx := B.exec
  have hb := B.bytes
  have hr := B.returns
  have hts : ∀ w ∈ wsL_law, w.before ([.int x0, .int x1] : List Value).toArray s = true := fun w h => (atoms_spec B.pre) w (List.mem_cons_of_mem _ h)
  have hown : s.vm.findClass RX12 = some m.cls := findClass_of_methodNamed B.named
  have hlocks := B.notSynchronized
  have S : zS p m c cX12_beside 4 s ([.int x0, .int x1] : List Value).toArray RX12 := ⟨hx, hb, hml, hown, hts⟩
  have hS : va_S A s.heap s.heap [] := va_S.rf
  have hl := lv_entry ([.int x0, .int x1]) (n := 4) (Nat.le_of_ble_eq_true rfl)
  rw [lg_entry_eq]
  generalize (lg_sl ([.int x0, .int x1]) ++ List.replicate (4 - (lg_sl ([.int x0, .int x1])).length) Slot.unset).toArray = ls at hl ⊢
  have hl : lv_has ls 4 [(0, .int x0), (1, .int x1)] := hl
  generalize hargs : ([.int x0, .int x1] : List Value).toArray = args at S hts ⊢
  clear hargs
  have hK0 : ∀ (H : Heap) (locs : List Loc) (ls : Array Slot), zG D aC A nl ad σ s H → va_S A s.heap H locs → lv_has ls 4 [(0, .int x0), (1, .int x1)] → f_X12_beside x0 x1 = r → zWk p l e ({ frames := 1, cells := 0, slots := 0, locals := 22 } : Room) s m args below meth c A (some (.int r)) (fun t => zG D aC A nl ad σ t t.heap ∧ True) H locs (F0 m 0 ls []) := by
    intro H locs ls hG hS hl hf
    unfold f_X12_beside at hf
    refine lv_iload_n hx hb dX12_beside_0 rfl (lv_at hl 0 rfl) ?_
    refine lv_bipush (v := 10) hx hb dX12_beside_1 (by decide) ?_
    refine z_irem (v := (zrem x0 10)) hx hb dX12_beside_3 (by decide) rfl ?_
    refine lv_iload_n hx hb dX12_beside_4 rfl (lv_at hl 1 rfl) ?_
    refine lv_iconst (v := 1) hx hb dX12_beside_5 (by decide) ?_
    have Kv4 : ∀ (v4 : Int32) (ls : Array Slot), lv_has ls 4 [(0, .int x0), (1, .int x1)] → (if (f_X12_isIn ((zrem x0 10) + v4) 0 9) = 0 then (-1) else (if (f_X12_isIn (((zrem x0 80) / 10) + (if x1 = 0 then (-1) else (if x1 = 2 then 1 else 0) : Int32)) 0 7) = 0 then (-1) else (f_X12_spot (x0 / 80) ((zrem x0 10) + v4) (((zrem x0 80) / 10) + (if x1 = 0 then (-1) else (if x1 = 2 then 1 else 0) : Int32))))) = r → zWk p l e ({ frames := 1, cells := 0, slots := 0, locals := 22 } : Room) s m args below meth c A (some (.int r)) (fun t => zG D aC A nl ad σ t t.heap ∧ True) H locs (F0 m 23 ls [.int v4, .int (zrem x0 10)]) := by
      intro v4 ls hl hf
      refine lv_iadd hx hb dX12_beside_23 ?_
      refine lv_istore_n (lv' := [(2, .int ((zrem x0 10) + v4)), (0, .int x0), (1, .int x1)]) hx hb dX12_beside_24 rfl hl (by decide) rfl (fun ls hl => ?_)
      refine lv_iload_n hx hb dX12_beside_25 rfl (lv_at hl 1 rfl) ?_
      refine lv_bipush (v := 80) hx hb dX12_beside_26 (by decide) ?_
      refine z_irem (v := (zrem x0 80)) hx hb dX12_beside_28 (by decide) rfl ?_
      refine lv_bipush (v := 10) hx hb dX12_beside_29 (by decide) ?_
      refine lv_idiv hx hb dX12_beside_31 (by decide) ?_
      refine lv_iload_n hx hb dX12_beside_32 rfl (lv_at hl 2 rfl) ?_
      have Kv22 : ∀ (v22 : Int32) (ls : Array Slot), lv_has ls 4 [(2, .int ((zrem x0 10) + v4)), (0, .int x0), (1, .int x1)] → (if (f_X12_isIn ((zrem x0 10) + v4) 0 9) = 0 then (-1) else (if (f_X12_isIn (((zrem x0 80) / 10) + v22) 0 7) = 0 then (-1) else (f_X12_spot (x0 / 80) ((zrem x0 10) + v4) (((zrem x0 80) / 10) + v22)))) = r → zWk p l e ({ frames := 1, cells := 0, slots := 0, locals := 22 } : Room) s m args below meth c A (some (.int r)) (fun t => zG D aC A nl ad σ t t.heap ∧ True) H locs (F0 m 50 ls [.int v22, .int ((zrem x0 80) / 10)]) := by
        intro v22 ls hl hf
        refine lv_iadd hx hb dX12_beside_50 ?_
        refine lv_istore_n (lv' := [(3, .int (((zrem x0 80) / 10) + v22)), (2, .int ((zrem x0 10) + v4)), (0, .int x0), (1, .int x1)]) hx hb dX12_beside_51 rfl hl (by decide) rfl (fun ls hl => ?_)
        refine lv_iload_n hx hb dX12_beside_52 rfl (lv_at hl 1 rfl) ?_
        refine lv_iconst (v := 0) hx hb dX12_beside_53 (by decide) ?_
        refine lv_bipush (v := 9) hx hb dX12_beside_54 (by decide) ?_
        refine z_callS (n := 3) (rest := []) (st1 := [.int (f_X12_isIn ((zrem x0 10) + v4) 0 9)]) S hG hS hZ (fun _ h => h) (c_X12_isIn l D aC zs A nl ad σ ((zrem x0 10) + v4) 0 9 (f_X12_isIn ((zrem x0 10) + v4) 0 9) rfl) zw_512 zw_513 zw_5 zw_514 (by decide +kernel) ⟨rfl, rfl⟩ ⟨(Nat.le_of_ble_eq_true rfl), (Nat.le_of_ble_eq_true rfl)⟩ hl.1 rfl (by rfl) (by rfl) (Nat.le_of_ble_eq_true rfl) dX12_beside_56 ⟨Nat.zero_le _, Nat.zero_le _⟩ (fun H locs hz28 hG hS => ?_)
        refine lv_if_eq (tgt := 84) hx hb dX12_beside_59 (by decide) (fun c29 => ?_) (fun c29 => ?_)
        · have hf := zif_p c29 hf
          refine lv_iconst (v := (-1)) hx hb dX12_beside_84 (by decide) ?_
          subst hf
          exact z_iret S hG hS hlocks trivial hr dX12_beside_85
        · have hf := zif_n c29 hf
          refine lv_iload_n hx hb dX12_beside_62 rfl (lv_at hl 0 rfl) ?_
          refine lv_iconst (v := 0) hx hb dX12_beside_63 (by decide) ?_
          refine lv_bipush (v := 7) hx hb dX12_beside_64 (by decide) ?_
          refine z_callS (n := 3) (rest := []) (st1 := [.int (f_X12_isIn (((zrem x0 80) / 10) + v22) 0 7)]) S hG hS hZ (fun _ h => h) (c_X12_isIn l D aC zs A nl ad σ (((zrem x0 80) / 10) + v22) 0 7 (f_X12_isIn (((zrem x0 80) / 10) + v22) 0 7) rfl) zw_512 zw_513 zw_5 zw_514 (by decide +kernel) ⟨rfl, rfl⟩ ⟨(Nat.le_of_ble_eq_true rfl), (Nat.le_of_ble_eq_true rfl)⟩ hl.1 rfl (by rfl) (by rfl) (Nat.le_of_ble_eq_true rfl) dX12_beside_66 ⟨Nat.zero_le _, Nat.zero_le _⟩ (fun H locs hz30 hG hS => ?_)
          refine lv_if_eq (tgt := 84) hx hb dX12_beside_69 (by decide) (fun c31 => ?_) (fun c31 => ?_)
          · have hf := zif_p c31 hf
            refine lv_iconst (v := (-1)) hx hb dX12_beside_84 (by decide) ?_
            subst hf
            exact z_iret S hG hS hlocks trivial hr dX12_beside_85
          · have hf := zif_n c31 hf
            refine lv_iload_n hx hb dX12_beside_72 rfl (lv_at hl 2 rfl) ?_
            refine lv_bipush (v := 80) hx hb dX12_beside_73 (by decide) ?_
            refine lv_idiv hx hb dX12_beside_75 (by decide) ?_
            refine lv_iload_n hx hb dX12_beside_76 rfl (lv_at hl 1 rfl) ?_
            refine lv_iload_n hx hb dX12_beside_77 rfl (lv_at hl 0 rfl) ?_
            refine z_callS (n := 3) (rest := []) (st1 := [.int (f_X12_spot (x0 / 80) ((zrem x0 10) + v4) (((zrem x0 80) / 10) + v22))]) S hG hS hZ (fun _ h => h) (c_X12_spot l D aC zs A nl ad σ (x0 / 80) ((zrem x0 10) + v4) (((zrem x0 80) / 10) + v22) (f_X12_spot (x0 / 80) ((zrem x0 10) + v4) (((zrem x0 80) / 10) + v22)) rfl) zw_842 zw_843 zw_5 zw_844 (by decide +kernel) ⟨rfl, rfl⟩ ⟨(Nat.le_of_ble_eq_true rfl), (Nat.le_of_ble_eq_true rfl)⟩ hl.1 rfl (by rfl) (by rfl) (Nat.le_of_ble_eq_true rfl) dX12_beside_78 ⟨Nat.zero_le _, Nat.zero_le _⟩ (fun H locs hz32 hG hS => ?_)
            refine lv_goto (tgt := 85) hx hb dX12_beside_81 (by decide) ?_
            subst hf
            exact z_iret S hG hS hlocks trivial hr dX12_beside_85
      refine lv_if_ne (tgt := 40) hx hb dX12_beside_33 (by decide) (fun c20 => ?_) (fun c20 => ?_)
      · rw [if_neg c20] at hf
        refine lv_iload_n hx hb dX12_beside_40 rfl (lv_at hl 2 rfl) ?_
        refine lv_iconst (v := 2) hx hb dX12_beside_41 (by decide) ?_
        refine lv_icmp_ne (tgt := 49) hx hb dX12_beside_42 (by decide) (fun c21 => ?_) (fun c21 => ?_)
        · rw [if_neg c21] at hf
          refine lv_iconst (v := 0) hx hb dX12_beside_49 (by decide) ?_
          exact Kv22 _ ls hl hf
        · rw [if_pos c21] at hf
          refine lv_iconst (v := 1) hx hb dX12_beside_45 (by decide) ?_
          refine lv_goto (tgt := 50) hx hb dX12_beside_46 (by decide) ?_
          exact Kv22 _ ls hl hf
      · rw [if_pos c20] at hf
        refine lv_iconst (v := (-1)) hx hb dX12_beside_36 (by decide) ?_
        refine lv_goto (tgt := 50) hx hb dX12_beside_37 (by decide) ?_
        exact Kv22 _ ls hl hf
    refine lv_icmp_ne (tgt := 13) hx hb dX12_beside_6 (by decide) (fun c2 => ?_) (fun c2 => ?_)
    · rw [if_neg c2] at hf
      refine lv_iload_n hx hb dX12_beside_13 rfl (lv_at hl 1 rfl) ?_
      refine lv_iconst (v := 3) hx hb dX12_beside_14 (by decide) ?_
      refine lv_icmp_ne (tgt := 22) hx hb dX12_beside_15 (by decide) (fun c3 => ?_) (fun c3 => ?_)
      · rw [if_neg c3] at hf
        refine lv_iconst (v := 0) hx hb dX12_beside_22 (by decide) ?_
        exact Kv4 _ ls hl hf
      · rw [if_pos c3] at hf
        refine lv_iconst (v := (-1)) hx hb dX12_beside_18 (by decide) ?_
        refine lv_goto (tgt := 23) hx hb dX12_beside_19 (by decide) ?_
        exact Kv4 _ ls hl hf
    · rw [if_pos c2] at hf
      refine lv_iconst (v := 1) hx hb dX12_beside_9 (by decide) ?_
      refine lv_goto (tgt := 23) hx hb dX12_beside_10 (by decide) ?_
      exact Kv4 _ ls hl hf
  exact hK0 _ _ ls hG hS hl hf
set_option maxRecDepth 100000 in
set_option maxHeartbeats 4000000 in
theorem c_X12_at (l : Launch) (D : va_G) (aC : Nat → ClassId) (zs : Nat × Nat) (A : Nat → Prop) (nl : List (Nat × Nat × Nat)) (ad : Nat → Nat → Nat → Nat) (σ : zM) (x1 : Int32) (x2 : Int32) (r : Int32)  (hf : f_X12_at σ x1 x2 = some r) : Met l yX12_at (Cond.code yX12_at cX12_at 3 (some .int) :: wsL_law) ({ frames := 0, cells := 0, slots := 0, locals := 0 } : Room) (zP D aC zs zfM A nl ad σ [.ref (ad 12 0 0), .int x1, .int x2]) (zQ (some (.int r)) (fun t => zG D aC A nl ad σ t t.heap ∧ True) A) 0 0 A := by
  refine Met.ofW (cc := cX12_at) (maxL := 3) (ret := (some .int)) (by decide) rfl ?_
  intro p e s m args below meth c s₁ B hml hv
  obtain ⟨rfl, hG, hZ⟩ := hv
  have hx := B.exec
  have hb := B.bytes
  have hr := B.returns
  have hts : ∀ w ∈ wsL_law, w.before ([.ref (ad 12 0 0), .int x1, .int x2] : List Value).toArray s = true := fun w h => (atoms_spec B.pre) w (List.mem_cons_of_mem _ h)
  have hown : s.vm.findClass RX12 = some m.cls := findClass_of_methodNamed B.named
  have hlocks := B.notSynchronized
  have S : zS p m c cX12_at 3 s ([.ref (ad 12 0 0), .int x1, .int x2] : List Value).toArray RX12 := ⟨hx, hb, hml, hown, hts⟩
  have hS : va_S A s.heap s.heap [] := va_S.rf
  have hl := lv_entry ([.ref (ad 12 0 0), .int x1, .int x2]) (n := 3) (Nat.le_of_ble_eq_true rfl)
  rw [lg_entry_eq]
  generalize (lg_sl ([.ref (ad 12 0 0), .int x1, .int x2]) ++ List.replicate (3 - (lg_sl ([.ref (ad 12 0 0), .int x1, .int x2])).length) Slot.unset).toArray = ls at hl ⊢
  have hl : lv_has ls 3 [(0, .ref (ad 12 0 0)), (1, .int x1), (2, .int x2)] := hl
  generalize hargs : ([.ref (ad 12 0 0), .int x1, .int x2] : List Value).toArray = args at S hts ⊢
  clear hargs
  have hK0 : ∀ (H : Heap) (locs : List Loc) (ls : Array Slot), zG D aC A nl ad σ s H → va_S A s.heap H locs → lv_has ls 3 [(0, .ref (ad 12 0 0)), (1, .int x1), (2, .int x2)] → f_X12_at σ x1 x2 = some r → zWk p l e ({ frames := 0, cells := 0, slots := 0, locals := 0 } : Room) s m args below meth c A (some (.int r)) (fun t => zG D aC A nl ad σ t t.heap ∧ True) H locs (F0 m 0 ls []) := by
    intro H locs ls hG hS hl hf
    unfold f_X12_at at hf
    refine lv_aload_n hx hb dX12_at_0 rfl (lv_at hl 0 rfl) ?_
    refine z_get (c0 := 12) (i0 := 0) (k0 := 3) (T := TX12) (v := .ref (ad 12 0 4)) S hG (hZ.2.1 (12, 0) (by decide)) rfl inlX12 (by decide) rfl zw_223 rfl dX12_at_1 ?_
    refine lv_sipush (v := 160) hx hb dX12_at_4 (by decide) ?_
    refine lv_iload_n hx hb dX12_at_7 rfl (lv_at hl 1 rfl) ?_
    refine lv_imul hx hb dX12_at_8 ?_
    refine lv_iload_n hx hb dX12_at_9 rfl (lv_at hl 2 rfl) ?_
    refine lv_iadd hx hb dX12_at_10 ?_
    obtain ⟨i1, hi1, hf⟩ := zbi hf
    refine z_iald (c0 := 12) (i0 := 0) (k0 := 3) S hG (hZ.2.1 (12, 0) (by decide)) (by decide) rfl hi1 dX12_at_11 ?_
    cases hf
    exact z_iret S hG hS hlocks trivial hr dX12_at_12
  exact hK0 _ _ ls hG hS hl hf
set_option maxRecDepth 100000 in
set_option maxHeartbeats 4000000 in
theorem c_X12_manyOf (l : Launch) (D : va_G) (aC : Nat → ClassId) (zs : Nat × Nat) (A : Nat → Prop) (nl : List (Nat × Nat × Nat)) (ad : Nat → Nat → Nat → Nat) (σ : zM) (x1 : Int32) (x2 : Int32) (r : Int32)  (hf : f_X12_manyOf σ x1 x2 = some r) : Met l yX12_manyOf (Cond.code yX12_manyOf cX12_manyOf 5 (some .int) :: wsL_law) ({ frames := 1, cells := 0, slots := 0, locals := 22 } : Room) (zP D aC zs zfM A nl ad σ [.ref (ad 12 0 0), .int x1, .int x2]) (zQ (some (.int r)) (fun t => zG D aC A nl ad σ t t.heap ∧ True) A) 0 0 A := by
  refine Met.ofW (cc := cX12_manyOf) (maxL := 5) (ret := (some .int)) (by decide) rfl ?_
  intro p e s m args below meth c s₁ B hml hv
  obtain ⟨rfl, hG, hZ⟩ := hv
  have hx := B.exec
  have hb := B.bytes
  have hr := B.returns
  have hts : ∀ w ∈ wsL_law, w.before ([.ref (ad 12 0 0), .int x1, .int x2] : List Value).toArray s = true := fun w h => (atoms_spec B.pre) w (List.mem_cons_of_mem _ h)
  have hown : s.vm.findClass RX12 = some m.cls := findClass_of_methodNamed B.named
  have hlocks := B.notSynchronized
  have S : zS p m c cX12_manyOf 5 s ([.ref (ad 12 0 0), .int x1, .int x2] : List Value).toArray RX12 := ⟨hx, hb, hml, hown, hts⟩
  have hS : va_S A s.heap s.heap [] := va_S.rf
  have hl := lv_entry ([.ref (ad 12 0 0), .int x1, .int x2]) (n := 5) (Nat.le_of_ble_eq_true rfl)
  rw [lg_entry_eq]
  generalize (lg_sl ([.ref (ad 12 0 0), .int x1, .int x2]) ++ List.replicate (5 - (lg_sl ([.ref (ad 12 0 0), .int x1, .int x2])).length) Slot.unset).toArray = ls at hl ⊢
  have hl : lv_has ls 5 [(0, .ref (ad 12 0 0)), (1, .int x1), (2, .int x2)] := hl
  generalize hargs : ([.ref (ad 12 0 0), .int x1, .int x2] : List Value).toArray = args at S hts ⊢
  clear hargs
  have hK0 : ∀ (H : Heap) (locs : List Loc) (ls : Array Slot), zG D aC A nl ad σ s H → va_S A s.heap H locs → lv_has ls 5 [(0, .ref (ad 12 0 0)), (1, .int x1), (2, .int x2)] → f_X12_manyOf σ x1 x2 = some r → zWk p l e ({ frames := 1, cells := 0, slots := 0, locals := 22 } : Room) s m args below meth c A (some (.int r)) (fun t => zG D aC A nl ad σ t t.heap ∧ True) H locs (F0 m 0 ls []) := by
    intro H locs ls hG hS hl hf
    unfold f_X12_manyOf at hf
    refine lv_iconst (v := 0) hx hb dX12_manyOf_0 (by decide) ?_
    refine lv_istore_n (lv' := [(3, .int 0), (0, .ref (ad 12 0 0)), (1, .int x1), (2, .int x2)]) hx hb dX12_manyOf_1 rfl hl (by decide) rfl (fun ls hl => ?_)
    refine lv_iconst (v := 0) hx hb dX12_manyOf_2 (by decide) ?_
    refine lv_istore (lv' := [(4, .int 0), (3, .int 0), (0, .ref (ad 12 0 0)), (1, .int x1), (2, .int x2)]) hx hb dX12_manyOf_3 hl (by decide) rfl (fun ls hl => ?_)
    obtain ⟨t5, hw5, hfo5⟩ := zbi hf
    have KL5 : ∀ (n : Nat) (y3 : Int32) (y4 : Int32) (H : Heap) (locs : List Loc) (ls : Array Slot), zG D aC A nl ad σ s H → va_S A s.heap H locs → lv_has ls 5 [(0, .ref (ad 12 0 0)), (1, .int x1), (2, .int x2), (3, .int y3), (4, .int y4)] → zwh (fun (q : (Int32 × Int32)) => f_X12_manyOf_L5 σ x1 x2 q.1 q.2) n (y3, y4) = some t5 → zWk p l e ({ frames := 1, cells := 0, slots := 0, locals := 22 } : Room) s m args below meth c A (some (.int r)) (fun t => zG D aC A nl ad σ t t.heap ∧ True) H locs (F0 m 5 ls []) := by
      intro n
      induction n with
      | zero =>
        intro y3 y4 H locs ls hG hS hl hw
        exact (zwh_0 hw).elim
      | succ n ih5 =>
        intro y3 y4 H locs ls hG hS hl hw
        obtain ⟨rr5, hf, hk5⟩ := zwh_u hw
        have hf : f_X12_manyOf_L5 σ x1 x2 y3 y4 = some rr5 := hf
        unfold f_X12_manyOf_L5 at hf
        refine lv_iload hx hb dX12_manyOf_5 (lv_at hl 4 rfl) ?_
        refine lv_sipush (v := 160) hx hb dX12_manyOf_7 (by decide) ?_
        refine lv_icmp_ge (tgt := 41) hx hb dX12_manyOf_10 (by decide) (fun c9 => ?_) (fun c9 => ?_)
        · have hf := zif_p c9 hf
          cases hf
          have hk5 : (y3 : Int32) = t5 := hk5
          have hf := hfo5
          rw [← hk5] at hf
          have hf : (some y3) = some r := hf
          refine lv_iload_n hx hb dX12_manyOf_41 rfl (lv_at hl 3 rfl) ?_
          cases hf
          exact z_iret S hG hS hlocks trivial hr dX12_manyOf_42
        · have hf := zif_n c9 hf
          refine lv_iload_n hx hb dX12_manyOf_13 rfl (lv_at hl 3 rfl) ?_
          refine lv_aload_n hx hb dX12_manyOf_14 rfl (lv_at hl 0 rfl) ?_
          refine lv_iload_n hx hb dX12_manyOf_15 rfl (lv_at hl 1 rfl) ?_
          refine lv_iload hx hb dX12_manyOf_16 (lv_at hl 4 rfl) ?_
          obtain ⟨r10, er10, hf⟩ := zbi hf
          refine z_callV (n := 2) (rest := [.int y3]) (st1 := [.int r10, .int y3]) (c0 := 12) (i0 := 0) (hZ.2.1 (12, 0) (by decide)) (by rfl) S hG hS hZ (fun _ h => h) (c_X12_at l D aC zs A nl ad σ x1 y4 r10 er10) zw_897 zw_898 zw_899 zw_5 zw_900 (by decide +kernel) ⟨rfl, rfl⟩ ⟨(Nat.le_of_ble_eq_true rfl), (Nat.le_of_ble_eq_true rfl)⟩ hl.1 rfl (by rfl) (by rfl) (Nat.le_of_ble_eq_true rfl) dX12_manyOf_18 ⟨Nat.zero_le _, Nat.zero_le _⟩ (fun H locs hz11 hG hS => ?_)
          refine lv_iload_n hx hb dX12_manyOf_21 rfl (lv_at hl 2 rfl) ?_
          have Kv14 : ∀ (v14 : Int32) (ls : Array Slot), lv_has ls 5 [(0, .ref (ad 12 0 0)), (1, .int x1), (2, .int x2), (3, .int y3), (4, .int y4)] → (some (.inl ((y3 + (f_X12_one v14)), (y4 + 1)))) = some rr5 → zWk p l e ({ frames := 1, cells := 0, slots := 0, locals := 22 } : Room) s m args below meth c A (some (.int r)) (fun t => zG D aC A nl ad σ t t.heap ∧ True) H locs (F0 m 30 ls [.int v14, .int y3]) := by
            intro v14 ls hl hf
            refine z_callS (n := 1) (rest := [.int y3]) (st1 := [.int (f_X12_one v14), .int y3]) S hG hS hZ (fun _ h => h) (c_X12_one l D aC zs A nl ad σ v14 (f_X12_one v14) rfl) zw_901 zw_902 zw_5 zw_903 (by decide +kernel) ⟨rfl, rfl⟩ ⟨(Nat.le_of_ble_eq_true rfl), (Nat.le_of_ble_eq_true rfl)⟩ hl.1 rfl (by rfl) (by rfl) (Nat.le_of_ble_eq_true rfl) dX12_manyOf_30 ⟨Nat.zero_le _, Nat.zero_le _⟩ (fun H locs hz16 hG hS => ?_)
            refine lv_iadd hx hb dX12_manyOf_33 ?_
            refine lv_istore_n (lv' := [(3, .int (y3 + (f_X12_one v14))), (0, .ref (ad 12 0 0)), (1, .int x1), (2, .int x2), (4, .int y4)]) hx hb dX12_manyOf_34 rfl hl (by decide) rfl (fun ls hl => ?_)
            refine lv_iinc (v := (y4 + 1)) (lv' := [(4, .int (y4 + 1)), (3, .int (y3 + (f_X12_one v14))), (0, .ref (ad 12 0 0)), (1, .int x1), (2, .int x2)]) hx hb dX12_manyOf_35 hl (k := 4) rfl rfl (by decide) rfl (fun ls hl => ?_)
            refine lv_goto (tgt := 5) hx hb dX12_manyOf_38 (by decide) ?_
            cases hf
            exact ih5 (y3 + (f_X12_one v14)) (y4 + 1) H locs ls hG hS (lv_sub hl [2, 3, 4, 1, 0] rfl) hk5
          refine lv_icmp_ne (tgt := 29) hx hb dX12_manyOf_22 (by decide) (fun c13 => ?_) (fun c13 => ?_)
          · rw [if_neg c13] at hf
            refine lv_iconst (v := 0) hx hb dX12_manyOf_29 (by decide) ?_
            exact Kv14 _ ls hl hf
          · rw [if_pos c13] at hf
            refine lv_iconst (v := 1) hx hb dX12_manyOf_25 (by decide) ?_
            refine lv_goto (tgt := 30) hx hb dX12_manyOf_26 (by decide) ?_
            exact Kv14 _ ls hl hf
    exact KL5 zFu 0 0 H locs ls hG hS (lv_sub hl [2, 3, 4, 1, 0] rfl) hw5
  exact hK0 _ _ ls hG hS hl hf
set_option maxRecDepth 100000 in
set_option maxHeartbeats 4000000 in
theorem c_X12_lightOf (l : Launch) (D : va_G) (aC : Nat → ClassId) (zs : Nat × Nat) (A : Nat → Prop) (nl : List (Nat × Nat × Nat)) (ad : Nat → Nat → Nat → Nat) (σ : zM) (x1 : Int32) (x2 : Int32) (r : Int32)  (hf : f_X12_lightOf σ x1 x2 = some r) : Met l yX12_lightOf (Cond.code yX12_lightOf cX12_lightOf 6 (some .int) :: wsL_law) ({ frames := 2, cells := 0, slots := 0, locals := 45 } : Room) (zP D aC zs zfM A nl ad σ [.ref (ad 12 0 0), .int x1, .int x2]) (zQ (some (.int r)) (fun t => zG D aC A nl ad σ t t.heap ∧ True) A) 0 0 A := by
  refine Met.ofW (cc := cX12_lightOf) (maxL := 6) (ret := (some .int)) (by decide) rfl ?_
  intro p e s m args below meth c s₁ B hml hv
  obtain ⟨rfl, hG, hZ⟩ := hv
  have hx := B.exec
  have hb := B.bytes
  have hr := B.returns
  have hts : ∀ w ∈ wsL_law, w.before ([.ref (ad 12 0 0), .int x1, .int x2] : List Value).toArray s = true := fun w h => (atoms_spec B.pre) w (List.mem_cons_of_mem _ h)
  have hown : s.vm.findClass RX12 = some m.cls := findClass_of_methodNamed B.named
  have hlocks := B.notSynchronized
  have S : zS p m c cX12_lightOf 6 s ([.ref (ad 12 0 0), .int x1, .int x2] : List Value).toArray RX12 := ⟨hx, hb, hml, hown, hts⟩
  have hS : va_S A s.heap s.heap [] := va_S.rf
  have hl := lv_entry ([.ref (ad 12 0 0), .int x1, .int x2]) (n := 6) (Nat.le_of_ble_eq_true rfl)
  rw [lg_entry_eq]
  generalize (lg_sl ([.ref (ad 12 0 0), .int x1, .int x2]) ++ List.replicate (6 - (lg_sl ([.ref (ad 12 0 0), .int x1, .int x2])).length) Slot.unset).toArray = ls at hl ⊢
  have hl : lv_has ls 6 [(0, .ref (ad 12 0 0)), (1, .int x1), (2, .int x2)] := hl
  generalize hargs : ([.ref (ad 12 0 0), .int x1, .int x2] : List Value).toArray = args at S hts ⊢
  clear hargs
  have hK0 : ∀ (H : Heap) (locs : List Loc) (ls : Array Slot), zG D aC A nl ad σ s H → va_S A s.heap H locs → lv_has ls 6 [(0, .ref (ad 12 0 0)), (1, .int x1), (2, .int x2)] → f_X12_lightOf σ x1 x2 = some r → zWk p l e ({ frames := 2, cells := 0, slots := 0, locals := 45 } : Room) s m args below meth c A (some (.int r)) (fun t => zG D aC A nl ad σ t t.heap ∧ True) H locs (F0 m 0 ls []) := by
    intro H locs ls hG hS hl hf
    unfold f_X12_lightOf at hf
    refine lv_iconst (v := 0) hx hb dX12_lightOf_0 (by decide) ?_
    refine lv_istore_n (lv' := [(3, .int 0), (0, .ref (ad 12 0 0)), (1, .int x1), (2, .int x2)]) hx hb dX12_lightOf_1 rfl hl (by decide) rfl (fun ls hl => ?_)
    refine lv_iconst (v := 0) hx hb dX12_lightOf_2 (by decide) ?_
    refine lv_istore (lv' := [(4, .int 0), (3, .int 0), (0, .ref (ad 12 0 0)), (1, .int x1), (2, .int x2)]) hx hb dX12_lightOf_3 hl (by decide) rfl (fun ls hl => ?_)
    obtain ⟨t5, hw5, hfo5⟩ := zbi hf
    have KL5 : ∀ (n : Nat) (y3 : Int32) (y4 : Int32) (H : Heap) (locs : List Loc) (ls : Array Slot), zG D aC A nl ad σ s H → va_S A s.heap H locs → lv_has ls 6 [(0, .ref (ad 12 0 0)), (1, .int x1), (2, .int x2), (3, .int y3), (4, .int y4)] → zwh (fun (q : (Int32 × Int32)) => f_X12_lightOf_L5 σ x1 x2 q.1 q.2) n (y3, y4) = some t5 → zWk p l e ({ frames := 2, cells := 0, slots := 0, locals := 45 } : Room) s m args below meth c A (some (.int r)) (fun t => zG D aC A nl ad σ t t.heap ∧ True) H locs (F0 m 5 ls []) := by
      intro n
      induction n with
      | zero =>
        intro y3 y4 H locs ls hG hS hl hw
        exact (zwh_0 hw).elim
      | succ n ih5 =>
        intro y3 y4 H locs ls hG hS hl hw
        obtain ⟨rr5, hf, hk5⟩ := zwh_u hw
        have hf : f_X12_lightOf_L5 σ x1 x2 y3 y4 = some rr5 := hf
        unfold f_X12_lightOf_L5 at hf
        have KJ80_5 : ∀ (y3 : Int32) (y4 : Int32)   (H : Heap) (locs : List Loc) (ls : Array Slot), zG D aC A nl ad σ s H → va_S A s.heap H locs → lv_has ls 6 [(0, .ref (ad 12 0 0)), (1, .int x1), (2, .int x2), (3, .int y3), (4, .int y4)] → (f_X12_lightOf_B80_5 σ x1 x2 y3 y4) = some rr5 → zWk p l e ({ frames := 2, cells := 0, slots := 0, locals := 45 } : Room) s m args below meth c A (some (.int r)) (fun t => zG D aC A nl ad σ t t.heap ∧ True) H locs (F0 m 80 ls []) := by
          intro y3 y4   H locs ls hG hS hl hf
          unfold f_X12_lightOf_B80_5 at hf
          refine lv_iinc (v := (y4 + 1)) (lv' := [(4, .int (y4 + 1)), (0, .ref (ad 12 0 0)), (1, .int x1), (2, .int x2), (3, .int y3)]) hx hb dX12_lightOf_80 hl (k := 4) rfl rfl (by decide) rfl (fun ls hl => ?_)
          refine lv_goto (tgt := 5) hx hb dX12_lightOf_83 (by decide) ?_
          cases hf
          exact ih5 y3 (y4 + 1) H locs ls hG hS (lv_sub hl [1, 2, 3, 4, 0] rfl) hk5
        refine lv_iload hx hb dX12_lightOf_5 (lv_at hl 4 rfl) ?_
        refine lv_sipush (v := 160) hx hb dX12_lightOf_7 (by decide) ?_
        refine lv_icmp_ge (tgt := 86) hx hb dX12_lightOf_10 (by decide) (fun c21 => ?_) (fun c21 => ?_)
        · have hf := zif_p c21 hf
          cases hf
          have hk5 : (y3 : Int32) = t5 := hk5
          have hf := hfo5
          rw [← hk5] at hf
          have hf : (some y3) = some r := hf
          refine lv_iload_n hx hb dX12_lightOf_86 rfl (lv_at hl 3 rfl) ?_
          cases hf
          exact z_iret S hG hS hlocks trivial hr dX12_lightOf_87
        · have hf := zif_n c21 hf
          refine lv_aload_n hx hb dX12_lightOf_13 rfl (lv_at hl 0 rfl) ?_
          refine lv_iload_n hx hb dX12_lightOf_14 rfl (lv_at hl 1 rfl) ?_
          refine lv_iload hx hb dX12_lightOf_15 (lv_at hl 4 rfl) ?_
          obtain ⟨r22, er22, hf⟩ := zbi hf
          refine z_callV (n := 2) (rest := []) (st1 := [.int r22]) (c0 := 12) (i0 := 0) (hZ.2.1 (12, 0) (by decide)) (by rfl) S hG hS hZ (fun _ h => h) (c_X12_at l D aC zs A nl ad σ x1 y4 r22 er22) zw_897 zw_898 zw_899 zw_5 zw_900 (by decide +kernel) ⟨rfl, rfl⟩ ⟨(Nat.le_of_ble_eq_true rfl), (Nat.le_of_ble_eq_true rfl)⟩ hl.1 rfl (by rfl) (by rfl) (Nat.le_of_ble_eq_true rfl) dX12_lightOf_17 ⟨Nat.zero_le _, Nat.zero_le _⟩ (fun H locs hz23 hG hS => ?_)
          refine lv_iload_n hx hb dX12_lightOf_20 rfl (lv_at hl 2 rfl) ?_
          refine lv_icmp_eq (tgt := 27) hx hb dX12_lightOf_21 (by decide) (fun c24 => ?_) (fun c24 => ?_)
          · have hf := zif_p c24 hf
            refine lv_iconst (v := 0) hx hb dX12_lightOf_27 (by decide) ?_
            refine lv_istore (lv' := [(5, .int 0), (0, .ref (ad 12 0 0)), (1, .int x1), (2, .int x2), (3, .int y3), (4, .int y4)]) hx hb dX12_lightOf_28 hl (by decide) rfl (fun ls hl => ?_)
            obtain ⟨t30, hw30, hfo30⟩ := zbi hf
            have KL30 : ∀ (n : Nat) (y3 : Int32) (y5 : Int32) (H : Heap) (locs : List Loc) (ls : Array Slot), zG D aC A nl ad σ s H → va_S A s.heap H locs → lv_has ls 6 [(0, .ref (ad 12 0 0)), (1, .int x1), (2, .int x2), (4, .int y4), (3, .int y3), (5, .int y5)] → zwh (fun (q : (Int32 × Int32)) => f_X12_lightOf_L30 σ x1 x2 y4 q.1 q.2) n (y3, y5) = some t30 → zWk p l e ({ frames := 2, cells := 0, slots := 0, locals := 45 } : Room) s m args below meth c A (some (.int r)) (fun t => zG D aC A nl ad σ t t.heap ∧ True) H locs (F0 m 30 ls []) := by
              intro n
              induction n with
              | zero =>
                intro y3 y5 H locs ls hG hS hl hw
                exact (zwh_0 hw).elim
              | succ n ih30 =>
                intro y3 y5 H locs ls hG hS hl hw
                obtain ⟨rr30, hf, hk30⟩ := zwh_u hw
                have hf : f_X12_lightOf_L30 σ x1 x2 y4 y3 y5 = some rr30 := hf
                unfold f_X12_lightOf_L30 at hf
                have KJ74_30 : ∀ (y3 : Int32) (y5 : Int32)   (H : Heap) (locs : List Loc) (ls : Array Slot), zG D aC A nl ad σ s H → va_S A s.heap H locs → lv_has ls 6 [(0, .ref (ad 12 0 0)), (1, .int x1), (2, .int x2), (3, .int y3), (4, .int y4), (5, .int y5)] → (f_X12_lightOf_B74_30 σ x1 x2 y3 y4 y5) = some rr30 → zWk p l e ({ frames := 2, cells := 0, slots := 0, locals := 45 } : Room) s m args below meth c A (some (.int r)) (fun t => zG D aC A nl ad σ t t.heap ∧ True) H locs (F0 m 74 ls []) := by
                  intro y3 y5   H locs ls hG hS hl hf
                  unfold f_X12_lightOf_B74_30 at hf
                  refine lv_iinc (v := (y5 + 1)) (lv' := [(5, .int (y5 + 1)), (0, .ref (ad 12 0 0)), (1, .int x1), (2, .int x2), (3, .int y3), (4, .int y4)]) hx hb dX12_lightOf_74 hl (k := 5) rfl rfl (by decide) rfl (fun ls hl => ?_)
                  refine lv_goto (tgt := 30) hx hb dX12_lightOf_77 (by decide) ?_
                  cases hf
                  exact ih30 y3 (y5 + 1) H locs ls hG hS (lv_sub hl [1, 2, 3, 5, 4, 0] rfl) hk30
                have KJ62_30 : ∀ (y3 : Int32) (y5 : Int32)   (H : Heap) (locs : List Loc) (ls : Array Slot), zG D aC A nl ad σ s H → va_S A s.heap H locs → lv_has ls 6 [(0, .ref (ad 12 0 0)), (1, .int x1), (2, .int x2), (3, .int y3), (4, .int y4), (5, .int y5)] → (f_X12_lightOf_B62_30 σ x1 x2 y3 y4 y5) = some rr30 → zWk p l e ({ frames := 2, cells := 0, slots := 0, locals := 45 } : Room) s m args below meth c A (some (.int r)) (fun t => zG D aC A nl ad σ t t.heap ∧ True) H locs (F0 m 62 ls []) := by
                  intro y3 y5   H locs ls hG hS hl hf
                  unfold f_X12_lightOf_B62_30 at hf
                  refine lv_iload_n hx hb dX12_lightOf_62 rfl (lv_at hl 3 rfl) ?_
                  refine lv_aload_n hx hb dX12_lightOf_63 rfl (lv_at hl 0 rfl) ?_
                  refine z_get (c0 := 12) (i0 := 0) (k0 := 6) (T := TX12) (v := .ref (ad 12 0 7)) S hG (hZ.2.1 (12, 0) (by decide)) rfl inlX12 (by decide) rfl zw_226 rfl dX12_lightOf_64 ?_
                  refine lv_iload hx hb dX12_lightOf_67 (lv_at hl 5 rfl) ?_
                  obtain ⟨i36, hi36, hf⟩ := zbi hf
                  refine z_iald (c0 := 12) (i0 := 0) (k0 := 6) S hG (hZ.2.1 (12, 0) (by decide)) (by decide) rfl hi36 dX12_lightOf_69 ?_
                  refine z_mmax (v := (zmax y3 (zA σ 12 0 6 i36))) S hl zw_733 zw_90 zw_91 zw_92 (Nat.le_of_ble_eq_true rfl) (Nat.le_of_ble_eq_true rfl) (Nat.le_of_ble_eq_true rfl) (Nat.zero_le _) (Nat.zero_le _) rfl dX12_lightOf_70 ?_
                  refine lv_istore_n (lv' := [(3, .int (zmax y3 (zA σ 12 0 6 i36))), (0, .ref (ad 12 0 0)), (1, .int x1), (2, .int x2), (4, .int y4), (5, .int y5)]) hx hb dX12_lightOf_73 rfl hl (by decide) rfl (fun ls hl => ?_)
                  exact KJ74_30 (zmax y3 (zA σ 12 0 6 i36)) y5 H locs ls hG hS (lv_sub hl [1, 2, 3, 0, 4, 5] rfl) hf
                refine lv_iload hx hb dX12_lightOf_30 (lv_at hl 5 rfl) ?_
                refine lv_iconst (v := 4) hx hb dX12_lightOf_32 (by decide) ?_
                refine lv_icmp_ge (tgt := 80) hx hb dX12_lightOf_33 (by decide) (fun c33 => ?_) (fun c33 => ?_)
                · have hf := zif_p c33 hf
                  cases hf
                  have hk30 : (y3 : Int32) = t30 := hk30
                  have hf := hfo30
                  rw [← hk30] at hf
                  have hf : (f_X12_lightOf_B80_5 σ x1 x2 y3 y4) = some rr5 := hf
                  exact KJ80_5 y3 y4 H locs ls hG hS (lv_sub hl [0, 1, 2, 4, 3] rfl) hf
                · have hf := zif_n c33 hf
                  refine lv_iload hx hb dX12_lightOf_36 (lv_at hl 3 rfl) ?_
                  refine lv_iload hx hb dX12_lightOf_38 (lv_at hl 5 rfl) ?_
                  refine z_callS (n := 2) (rest := []) (st1 := [.int (f_X12_beside y4 y5)]) S hG hS hZ (fun _ h => h) (c_X12_beside l D aC zs A nl ad σ y4 y5 (f_X12_beside y4 y5) rfl) zw_908 zw_909 zw_5 zw_910 (by decide +kernel) ⟨rfl, rfl⟩ ⟨(Nat.le_of_ble_eq_true rfl), (Nat.le_of_ble_eq_true rfl)⟩ hl.1 rfl (by rfl) (by rfl) (Nat.le_of_ble_eq_true rfl) dX12_lightOf_40 ⟨Nat.zero_le _, Nat.zero_le _⟩ (fun H locs hz34 hG hS => ?_)
                  refine lv_iconst (v := (-1)) hx hb dX12_lightOf_43 (by decide) ?_
                  refine lv_icmp_eq (tgt := 62) hx hb dX12_lightOf_44 (by decide) (fun c35 => ?_) (fun c35 => ?_)
                  · have hf := zif_p c35 hf
                    exact KJ62_30 y3 y5 H locs ls hG hS (lv_sub hl [0, 1, 2, 4, 3, 5] rfl) hf
                  · have hf := zif_n c35 hf
                    refine lv_aload_n hx hb dX12_lightOf_47 rfl (lv_at hl 0 rfl) ?_
                    refine lv_iload_n hx hb dX12_lightOf_48 rfl (lv_at hl 1 rfl) ?_
                    refine lv_iload hx hb dX12_lightOf_49 (lv_at hl 3 rfl) ?_
                    refine lv_iload hx hb dX12_lightOf_51 (lv_at hl 5 rfl) ?_
                    refine z_callS (n := 2) (rest := [.int x1, .ref (ad 12 0 0)]) (st1 := [.int (f_X12_beside y4 y5), .int x1, .ref (ad 12 0 0)]) S hG hS hZ (fun _ h => h) (c_X12_beside l D aC zs A nl ad σ y4 y5 (f_X12_beside y4 y5) rfl) zw_908 zw_909 zw_5 zw_910 (by decide +kernel) ⟨rfl, rfl⟩ ⟨(Nat.le_of_ble_eq_true rfl), (Nat.le_of_ble_eq_true rfl)⟩ hl.1 rfl (by rfl) (by rfl) (Nat.le_of_ble_eq_true rfl) dX12_lightOf_53 ⟨Nat.zero_le _, Nat.zero_le _⟩ (fun H locs hz37 hG hS => ?_)
                    obtain ⟨r38, er38, hf⟩ := zbi hf
                    refine z_callV (n := 2) (rest := []) (st1 := [.int r38]) (c0 := 12) (i0 := 0) (hZ.2.1 (12, 0) (by decide)) (by rfl) S hG hS hZ (fun _ h => h) (c_X12_at l D aC zs A nl ad σ x1 (f_X12_beside y4 y5) r38 er38) zw_897 zw_898 zw_899 zw_5 zw_900 (by decide +kernel) ⟨rfl, rfl⟩ ⟨(Nat.le_of_ble_eq_true rfl), (Nat.le_of_ble_eq_true rfl)⟩ hl.1 rfl (by rfl) (by rfl) (Nat.le_of_ble_eq_true rfl) dX12_lightOf_56 ⟨Nat.zero_le _, Nat.zero_le _⟩ (fun H locs hz39 hG hS => ?_)
                    refine lv_if_ne (tgt := 74) hx hb dX12_lightOf_59 (by decide) (fun c40 => ?_) (fun c40 => ?_)
                    · have hf := zif_n c40 hf
                      exact KJ74_30 y3 y5 H locs ls hG hS (lv_sub hl [0, 1, 2, 4, 3, 5] rfl) hf
                    · have hf := zif_p c40 hf
                      exact KJ62_30 y3 y5 H locs ls hG hS (lv_sub hl [0, 1, 2, 4, 3, 5] rfl) hf
            exact KL30 zFu y3 0 H locs ls hG hS (lv_sub hl [1, 2, 3, 5, 4, 0] rfl) hw30
          · have hf := zif_n c24 hf
            refine lv_goto (tgt := 80) hx hb dX12_lightOf_24 (by decide) ?_
            exact KJ80_5 y3 y4 H locs ls hG hS (lv_sub hl [0, 1, 2, 3, 4] rfl) hf
    exact KL5 zFu 0 0 H locs ls hG hS (lv_sub hl [2, 3, 4, 1, 0] rfl) hw5
  exact hK0 _ _ ls hG hS hl hf
set_option maxRecDepth 100000 in
set_option maxHeartbeats 4000000 in
theorem c_X12_isRoom (l : Launch) (D : va_G) (aC : Nat → ClassId) (zs : Nat × Nat) (A : Nat → Prop) (nl : List (Nat × Nat × Nat)) (ad : Nat → Nat → Nat → Nat) (σ : zM) (x0 : Int32) (r : Int32)  (hf : f_X12_isRoom x0 = r) : Met l yX12_isRoom (Cond.code yX12_isRoom cX12_isRoom 1 (some .boolean) :: wsL_law) ({ frames := 1, cells := 0, slots := 0, locals := 22 } : Room) (zP D aC zs zfM A nl ad σ [.int x0]) (zQ (some (.int r)) (fun t => zG D aC A nl ad σ t t.heap ∧ (r = 0 ∨ r = 1)) A) 0 0 A := by
  refine Met.ofW (cc := cX12_isRoom) (maxL := 1) (ret := (some .boolean)) (by decide) rfl ?_
  intro p e s m args below meth c s₁ B hml hv
  obtain ⟨rfl, hG, hZ⟩ := hv
  have hx := B.exec
  have hb := B.bytes
  have hr := B.returns
  have hts : ∀ w ∈ wsL_law, w.before ([.int x0] : List Value).toArray s = true := fun w h => (atoms_spec B.pre) w (List.mem_cons_of_mem _ h)
  have hown : s.vm.findClass RX12 = some m.cls := findClass_of_methodNamed B.named
  have hlocks := B.notSynchronized
  have S : zS p m c cX12_isRoom 1 s ([.int x0] : List Value).toArray RX12 := ⟨hx, hb, hml, hown, hts⟩
  have hS : va_S A s.heap s.heap [] := va_S.rf
  have hl := lv_entry ([.int x0]) (n := 1) (Nat.le_of_ble_eq_true rfl)
  rw [lg_entry_eq]
  generalize (lg_sl ([.int x0]) ++ List.replicate (1 - (lg_sl ([.int x0])).length) Slot.unset).toArray = ls at hl ⊢
  have hl : lv_has ls 1 [(0, .int x0)] := hl
  generalize hargs : ([.int x0] : List Value).toArray = args at S hts ⊢
  clear hargs
  have hK0 : ∀ (H : Heap) (locs : List Loc) (ls : Array Slot), zG D aC A nl ad σ s H → va_S A s.heap H locs → lv_has ls 1 [(0, .int x0)] → f_X12_isRoom x0 = r → zWk p l e ({ frames := 1, cells := 0, slots := 0, locals := 22 } : Room) s m args below meth c A (some (.int r)) (fun t => zG D aC A nl ad σ t t.heap ∧ (r = 0 ∨ r = 1)) H locs (F0 m 0 ls []) := by
    intro H locs ls hG hS hl hf
    unfold f_X12_isRoom at hf
    refine lv_iload_n hx hb dX12_isRoom_0 rfl (lv_at hl 0 rfl) ?_
    refine lv_iconst (v := 1) hx hb dX12_isRoom_1 (by decide) ?_
    refine lv_bipush (v := 12) hx hb dX12_isRoom_2 (by decide) ?_
    refine z_callS (n := 3) (rest := []) (st1 := [.int (f_X12_isIn x0 1 12)]) S hG hS hZ (fun _ h => h) (c_X12_isIn l D aC zs A nl ad σ x0 1 12 (f_X12_isIn x0 1 12) rfl) zw_512 zw_513 zw_5 zw_514 (by decide +kernel) ⟨rfl, rfl⟩ ⟨(Nat.le_of_ble_eq_true rfl), (Nat.le_of_ble_eq_true rfl)⟩ hl.1 rfl (by rfl) (by rfl) (Nat.le_of_ble_eq_true rfl) dX12_isRoom_4 ⟨Nat.zero_le _, Nat.zero_le _⟩ (fun H locs hz1 hG hS => ?_)
    subst hf
    exact z_zret S hG hS hlocks hz1 hr dX12_isRoom_7
  exact hK0 _ _ ls hG hS hl hf
