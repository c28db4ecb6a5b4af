set_option maxRecDepth 100000 in
set_option maxHeartbeats 4000000 in
theorem c_X11_day (l : Launch) (D : va_G) (aC : Nat → ClassId) (zs : Nat × Nat) (A : Nat → Prop) (nl : zNL) (ad : Nat → Nat → Nat → Nat) (σ : zM) (x1 : Int32) (r : Int32) (σ' : zM)  (hf : f_X11_day σ x1 = (r, σ')) : Met l yX11_day (Cond.code yX11_day cX11_day 2 (some .boolean) :: wsL_law) ({ frames := 1, cells := 0, slots := 0, locals := 20 } : Room) (zP D aC zs zfX A nl ad σ [.ref (ad 11 0 0), .int x1]) (zQ (some (.int r)) (fun t => zG D aC A nl ad σ' t t.heap ∧ (r = 0 ∨ r = 1)) A) 0 0 A := by
  refine Met.ofW (cc := cX11_day) (maxL := 2) (ret := (some .boolean)) (by decide) rfl ?_
  intro p e s m args below meth c s₁ B hml hv
  obtain ⟨rfl, hG, hZ⟩ := hv
  have hx := B.exec
  have hb := B.bytes
  have hr := B.returns
  have hts : ∀ w ∈ wsL_law, w.before ([.ref (ad 11 0 0), .int x1] : List Value).toArray s = true := fun w h => (atoms_spec B.pre) w (List.mem_cons_of_mem _ h)
  have hown : s.vm.findClass RX11 = some m.cls := findClass_of_methodNamed B.named
  have hlocks := B.notSynchronized
  have S : zS p m c cX11_day 2 s ([.ref (ad 11 0 0), .int x1] : List Value).toArray RX11 := ⟨hx, hb, hml, hown, hts⟩
  have hS : va_S A s.heap s.heap [] := va_S.rf
  have hl := lv_entry ([.ref (ad 11 0 0), .int x1]) (n := 2) (Nat.le_of_ble_eq_true rfl)
  rw [lg_entry_eq]
  generalize (lg_sl ([.ref (ad 11 0 0), .int x1]) ++ List.replicate (2 - (lg_sl ([.ref (ad 11 0 0), .int x1])).length) Slot.unset).toArray = ls at hl ⊢
  have hl : lv_has ls 2 [(0, .ref (ad 11 0 0)), (1, .int x1)] := hl
  generalize hargs : ([.ref (ad 11 0 0), .int x1] : List Value).toArray = args at S hts ⊢
  clear hargs
  have hK0 : ∀ (H : Heap) (locs : List Loc) (ls : Array Slot), zG D aC A nl ad σ s H → va_S A s.heap H locs → lv_has ls 2 [(0, .ref (ad 11 0 0)), (1, .int x1)] → f_X11_day σ x1 = (r, σ') → zWk p l e ({ frames := 1, cells := 0, slots := 0, locals := 20 } : Room) s m args below meth c A (some (.int r)) (fun t => zG D aC A nl ad σ' t t.heap ∧ (r = 0 ∨ r = 1)) H locs (F0 m 0 ls []) := by
    intro H locs ls hG hS hl hf
    unfold f_X11_day at hf
    refine lv_iload_n hx hb dX11_day_0 rfl (lv_at hl 1 rfl) ?_
    refine lv_aload_n hx hb dX11_day_1 rfl (lv_at hl 0 rfl) ?_
    refine z_get (c0 := 11) (i0 := 0) (k0 := 10) (T := TX11) (v := .int (zI σ 11 0 10)) S hG (hZ.2.1 (11, 0) (by decide)) rfl inlX11 (by decide) rfl zw_48 rfl dX11_day_2 ?_
    refine lv_icmp_le (tgt := 15) hx hb dX11_day_5 (by decide) (fun c1 => ?_) (fun c1 => ?_)
    · have hf := zif_p c1 hf
      refine lv_iconst (v := 0) hx hb dX11_day_15 (by decide) ?_
      obtain ⟨hq1, hq2⟩ := Prod.mk.inj hf
      subst hq1
      subst hq2
      exact z_zret S hG hS hlocks (Or.inl rfl) hr dX11_day_16
    · have hf := zif_n c1 hf
      refine lv_iload_n hx hb dX11_day_8 rfl (lv_at hl 1 rfl) ?_
      refine lv_sipush (v := 1000) hx hb dX11_day_9 (by decide) ?_
      refine lv_icmp_le (tgt := 17) hx hb dX11_day_12 (by decide) (fun c2 => ?_) (fun c2 => ?_)
      · have hf := zif_p c2 hf
        refine lv_aload_n hx hb dX11_day_17 rfl (lv_at hl 0 rfl) ?_
        refine lv_iload_n hx hb dX11_day_18 rfl (lv_at hl 1 rfl) ?_
        refine z_putI (c0 := 11) (i0 := 0) (k0 := 10) (T := TX11) S hG hS tyX11 tyX11_ok nmX11 (hZ.2.1 (11, 0) (by decide)) rfl inlX11 (by decide) rfl rfl zw_48 (by decide +kernel) rfl dX11_day_19 (fun H locs hG hS => ?_)
        obtain ⟨σ3, eσ3, hf⟩ := zlt_s hf
        rw [← eσ3] at hG
        refine lv_aload_n hx hb dX11_day_22 rfl (lv_at hl 0 rfl) ?_
        refine z_get (c0 := 11) (i0 := 0) (k0 := 4) (T := TX11) (v := .ref (ad 8 0 0)) S hG (hZ.2.1 (11, 0) (by decide)) rfl inlX11 (by decide) rfl zw_32 rfl dX11_day_23 ?_
        obtain ⟨σ4, eσ4, hf⟩ := zlt_s hf
        refine z_callV (n := 0) (rest := []) (st1 := []) (c0 := 8) (i0 := 0) (hZ.2.1 (8, 0) (by decide)) (by rfl) S hG hS hZ (fun _ _ h => h) (c_X8_forgetMend l D aC zs A nl ad σ3 σ4 eσ4.symm) zw_270 zw_271 zw_272 zw_31 zw_273 (by decide +kernel) ⟨rfl, rfl⟩ ⟨(Nat.le_of_ble_eq_true rfl), (Nat.le_of_ble_eq_true rfl)⟩ hl.1 rfl (by rfl) (by rfl) (Nat.le_of_ble_eq_true rfl) dX11_day_26 ⟨Nat.zero_le _, Nat.zero_le _⟩ (fun H locs hz5 hG hS => ?_)
        refine lv_iconst (v := 1) hx hb dX11_day_29 (by decide) ?_
        obtain ⟨hq1, hq2⟩ := Prod.mk.inj hf
        subst hq1
        subst hq2
        exact z_zret S hG hS hlocks (Or.inr rfl) hr dX11_day_30
      · have hf := zif_n c2 hf
        refine lv_iconst (v := 0) hx hb dX11_day_15 (by decide) ?_
        obtain ⟨hq1, hq2⟩ := Prod.mk.inj hf
        subst hq1
        subst hq2
        exact z_zret S hG hS hlocks (Or.inl rfl) hr dX11_day_16
  exact hK0 _ _ ls hG hS hl hf
set_option maxRecDepth 100000 in
set_option maxHeartbeats 4000000 in
theorem c_X11_feed (l : Launch) (D : va_G) (aC : Nat → ClassId) (zs : Nat × Nat) (A : Nat → Prop) (nl : zNL) (ad : Nat → Nat → Nat → Nat) (σ : zM) (x1 : Int32) (x2 : Int32) (x3 : Int32) (x4 : Int32) (x5 : Int32) (r : Int32) (σ' : zM)  (hf : f_X11_feed σ x1 x2 x3 x4 x5 = some (r, σ')) : Met l yX11_feed (Cond.code yX11_feed cX11_feed 6 (some .int) :: wsL_law) ({ frames := 1, cells := 0, slots := 0, locals := 22 } : Room) (zP D aC zs zfX A nl ad σ [.ref (ad 11 0 0), .int x1, .int x2, .int x3, .int x4, .int x5]) (zQ (some (.int r)) (fun t => zG D aC A nl ad σ' t t.heap ∧ True) A) 0 0 A := by
  refine Met.ofW (cc := cX11_feed) (maxL := 6) (ret := (some .int)) (by decide) rfl ?_
  intro p e s m args below meth c s₁ B hml hv
  obtain ⟨rfl, hG, hZ⟩ := hv
  have hx := B.exec
  have hb := B.bytes
  have hr := B.returns
  have hts : ∀ w ∈ wsL_law, w.before ([.ref (ad 11 0 0), .int x1, .int x2, .int x3, .int x4, .int x5] : List Value).toArray s = true := fun w h => (atoms_spec B.pre) w (List.mem_cons_of_mem _ h)
  have hown : s.vm.findClass RX11 = some m.cls := findClass_of_methodNamed B.named
  have hlocks := B.notSynchronized
  have S : zS p m c cX11_feed 6 s ([.ref (ad 11 0 0), .int x1, .int x2, .int x3, .int x4, .int x5] : List Value).toArray RX11 := ⟨hx, hb, hml, hown, hts⟩
  have hS : va_S A s.heap s.heap [] := va_S.rf
  have hl := lv_entry ([.ref (ad 11 0 0), .int x1, .int x2, .int x3, .int x4, .int x5]) (n := 6) (Nat.le_of_ble_eq_true rfl)
  rw [lg_entry_eq]
  generalize (lg_sl ([.ref (ad 11 0 0), .int x1, .int x2, .int x3, .int x4, .int x5]) ++ List.replicate (6 - (lg_sl ([.ref (ad 11 0 0), .int x1, .int x2, .int x3, .int x4, .int x5])).length) Slot.unset).toArray = ls at hl ⊢
  have hl : lv_has ls 6 [(0, .ref (ad 11 0 0)), (1, .int x1), (2, .int x2), (3, .int x3), (4, .int x4), (5, .int x5)] := hl
  generalize hargs : ([.ref (ad 11 0 0), .int x1, .int x2, .int x3, .int x4, .int x5] : List Value).toArray = args at S hts ⊢
  clear hargs
  have hK0 : ∀ (H : Heap) (locs : List Loc) (ls : Array Slot), zG D aC A nl ad σ s H → va_S A s.heap H locs → lv_has ls 6 [(0, .ref (ad 11 0 0)), (1, .int x1), (2, .int x2), (3, .int x3), (4, .int x4), (5, .int x5)] → f_X11_feed σ x1 x2 x3 x4 x5 = some (r, σ') → zWk p l e ({ frames := 1, cells := 0, slots := 0, locals := 22 } : Room) s m args below meth c A (some (.int r)) (fun t => zG D aC A nl ad σ' t t.heap ∧ True) H locs (F0 m 0 ls []) := by
    intro H locs ls hG hS hl hf
    unfold f_X11_feed at hf
    refine lv_aload_n hx hb dX11_feed_0 rfl (lv_at hl 0 rfl) ?_
    refine z_get (c0 := 11) (i0 := 0) (k0 := 0) (T := TX11) (v := .ref (ad 9 0 0)) S hG (hZ.2.1 (11, 0) (by decide)) rfl inlX11 (by decide) rfl zw_16 rfl dX11_feed_1 ?_
    refine lv_bipush (v := 20) hx hb dX11_feed_4 (by decide) ?_
    refine z_callV (n := 1) (rest := []) (st1 := [.int (f_X9_hasRoomFor σ 20)]) (c0 := 9) (i0 := 0) (hZ.2.1 (9, 0) (by decide)) (by rfl) S hG hS hZ (fun _ _ h => h) (c_X9_hasRoomFor l D aC zs A nl ad σ 20 (f_X9_hasRoomFor σ 20) rfl) zw_284 zw_285 zw_286 zw_15 zw_287 (by decide +kernel) ⟨rfl, rfl⟩ ⟨(Nat.le_of_ble_eq_true rfl), (Nat.le_of_ble_eq_true rfl)⟩ hl.1 rfl (by rfl) (by rfl) (Nat.le_of_ble_eq_true rfl) dX11_feed_6 ⟨Nat.zero_le _, Nat.zero_le _⟩ (fun H locs hz1 hG hS => ?_)
    refine lv_if_ne (tgt := 14) hx hb dX11_feed_9 (by decide) (fun c2 => ?_) (fun c2 => ?_)
    · have hf := zif_n c2 hf
      refine lv_aload_n hx hb dX11_feed_14 rfl (lv_at hl 0 rfl) ?_
      refine z_get (c0 := 11) (i0 := 0) (k0 := 0) (T := TX11) (v := .ref (ad 9 0 0)) S hG (hZ.2.1 (11, 0) (by decide)) rfl inlX11 (by decide) rfl zw_16 rfl dX11_feed_15 ?_
      refine lv_iload_n hx hb dX11_feed_18 rfl (lv_at hl 1 rfl) ?_
      obtain ⟨σ3, eσ3, hf⟩ := zbi hf
      refine z_callV (n := 1) (rest := []) (st1 := []) (c0 := 9) (i0 := 0) (hZ.2.1 (9, 0) (by decide)) (by rfl) S hG hS hZ (fun _ _ h => h) (c_X9_add l D aC zs A nl ad σ x1 σ3 eσ3) zw_288 zw_289 zw_290 zw_15 zw_291 (by decide +kernel) ⟨rfl, rfl⟩ ⟨(Nat.le_of_ble_eq_true rfl), (Nat.le_of_ble_eq_true rfl)⟩ hl.1 rfl (by rfl) (by rfl) (Nat.le_of_ble_eq_true rfl) dX11_feed_19 ⟨Nat.zero_le _, Nat.zero_le _⟩ (fun H locs hz4 hG hS => ?_)
      refine lv_aload_n hx hb dX11_feed_22 rfl (lv_at hl 0 rfl) ?_
      refine z_get (c0 := 11) (i0 := 0) (k0 := 0) (T := TX11) (v := .ref (ad 9 0 0)) S hG (hZ.2.1 (11, 0) (by decide)) rfl inlX11 (by decide) rfl zw_16 rfl dX11_feed_23 ?_
      refine lv_iload_n hx hb dX11_feed_26 rfl (lv_at hl 2 rfl) ?_
      obtain ⟨σ5, eσ5, hf⟩ := zbi hf
      refine z_callV (n := 1) (rest := []) (st1 := []) (c0 := 9) (i0 := 0) (hZ.2.1 (9, 0) (by decide)) (by rfl) S hG hS hZ (fun _ _ h => h) (c_X9_add l D aC zs A nl ad σ3 x2 σ5 eσ5) zw_288 zw_289 zw_290 zw_15 zw_291 (by decide +kernel) ⟨rfl, rfl⟩ ⟨(Nat.le_of_ble_eq_true rfl), (Nat.le_of_ble_eq_true rfl)⟩ hl.1 rfl (by rfl) (by rfl) (Nat.le_of_ble_eq_true rfl) dX11_feed_27 ⟨Nat.zero_le _, Nat.zero_le _⟩ (fun H locs hz6 hG hS => ?_)
      refine lv_aload_n hx hb dX11_feed_30 rfl (lv_at hl 0 rfl) ?_
      refine z_get (c0 := 11) (i0 := 0) (k0 := 0) (T := TX11) (v := .ref (ad 9 0 0)) S hG (hZ.2.1 (11, 0) (by decide)) rfl inlX11 (by decide) rfl zw_16 rfl dX11_feed_31 ?_
      refine lv_iload_n hx hb dX11_feed_34 rfl (lv_at hl 3 rfl) ?_
      obtain ⟨σ7, eσ7, hf⟩ := zbi hf
      refine z_callV (n := 1) (rest := []) (st1 := []) (c0 := 9) (i0 := 0) (hZ.2.1 (9, 0) (by decide)) (by rfl) S hG hS hZ (fun _ _ h => h) (c_X9_add l D aC zs A nl ad σ5 x3 σ7 eσ7) zw_288 zw_289 zw_290 zw_15 zw_291 (by decide +kernel) ⟨rfl, rfl⟩ ⟨(Nat.le_of_ble_eq_true rfl), (Nat.le_of_ble_eq_true rfl)⟩ hl.1 rfl (by rfl) (by rfl) (Nat.le_of_ble_eq_true rfl) dX11_feed_35 ⟨Nat.zero_le _, Nat.zero_le _⟩ (fun H locs hz8 hG hS => ?_)
      refine lv_aload_n hx hb dX11_feed_38 rfl (lv_at hl 0 rfl) ?_
      refine z_get (c0 := 11) (i0 := 0) (k0 := 0) (T := TX11) (v := .ref (ad 9 0 0)) S hG (hZ.2.1 (11, 0) (by decide)) rfl inlX11 (by decide) rfl zw_16 rfl dX11_feed_39 ?_
      refine lv_iload hx hb dX11_feed_42 (lv_at hl 4 rfl) ?_
      obtain ⟨σ9, eσ9, hf⟩ := zbi hf
      refine z_callV (n := 1) (rest := []) (st1 := []) (c0 := 9) (i0 := 0) (hZ.2.1 (9, 0) (by decide)) (by rfl) S hG hS hZ (fun _ _ h => h) (c_X9_add l D aC zs A nl ad σ7 x4 σ9 eσ9) zw_288 zw_289 zw_290 zw_15 zw_291 (by decide +kernel) ⟨rfl, rfl⟩ ⟨(Nat.le_of_ble_eq_true rfl), (Nat.le_of_ble_eq_true rfl)⟩ hl.1 rfl (by rfl) (by rfl) (Nat.le_of_ble_eq_true rfl) dX11_feed_44 ⟨Nat.zero_le _, Nat.zero_le _⟩ (fun H locs hz10 hG hS => ?_)
      refine lv_aload_n hx hb dX11_feed_47 rfl (lv_at hl 0 rfl) ?_
      refine z_get (c0 := 11) (i0 := 0) (k0 := 0) (T := TX11) (v := .ref (ad 9 0 0)) S hG (hZ.2.1 (11, 0) (by decide)) rfl inlX11 (by decide) rfl zw_16 rfl dX11_feed_48 ?_
      refine lv_iload hx hb dX11_feed_51 (lv_at hl 5 rfl) ?_
      obtain ⟨σ11, eσ11, hf⟩ := zbi hf
      refine z_callV (n := 1) (rest := []) (st1 := []) (c0 := 9) (i0 := 0) (hZ.2.1 (9, 0) (by decide)) (by rfl) S hG hS hZ (fun _ _ h => h) (c_X9_add l D aC zs A nl ad σ9 x5 σ11 eσ11) zw_288 zw_289 zw_290 zw_15 zw_291 (by decide +kernel) ⟨rfl, rfl⟩ ⟨(Nat.le_of_ble_eq_true rfl), (Nat.le_of_ble_eq_true rfl)⟩ hl.1 rfl (by rfl) (by rfl) (Nat.le_of_ble_eq_true rfl) dX11_feed_53 ⟨Nat.zero_le _, Nat.zero_le _⟩ (fun H locs hz12 hG hS => ?_)
      refine lv_aload_n hx hb dX11_feed_56 rfl (lv_at hl 0 rfl) ?_
      refine z_get (c0 := 11) (i0 := 0) (k0 := 0) (T := TX11) (v := .ref (ad 9 0 0)) S hG (hZ.2.1 (11, 0) (by decide)) rfl inlX11 (by decide) rfl zw_16 rfl dX11_feed_57 ?_
      refine z_get (c0 := 9) (i0 := 0) (k0 := 1) (T := TX9) (v := .int (zI σ11 9 0 1)) S hG (hZ.2.1 (9, 0) (by decide)) rfl inlX9 (by decide) rfl zw_283 rfl dX11_feed_60 ?_
      obtain ⟨hq1, hq2⟩ := Prod.mk.inj (Option.some.inj hf)
      subst hq1
      subst hq2
      exact z_iret S hG hS hlocks trivial hr dX11_feed_63
    · have hf := zif_p c2 hf
      refine lv_iconst (v := (-1)) hx hb dX11_feed_12 (by decide) ?_
      obtain ⟨hq1, hq2⟩ := Prod.mk.inj (Option.some.inj hf)
      subst hq1
      subst hq2
      exact z_iret S hG hS hlocks trivial hr dX11_feed_13
  exact hK0 _ _ ls hG hS hl hf
set_option maxRecDepth 100000 in
set_option maxHeartbeats 4000000 in
theorem c_X11_fault (l : Launch) (D : va_G) (aC : Nat → ClassId) (zs : Nat × Nat) (A : Nat → Prop) (nl : zNL) (ad : Nat → Nat → Nat → Nat) (σ : zM)  (r : Int32)  (hf : f_X11_fault σ = r) : Met l yX11_fault (Cond.code yX11_fault cX11_fault 1 (some .int) :: wsL_law) ({ frames := 0, cells := 0, slots := 0, locals := 0 } : Room) (zP D aC zs zfX A nl ad σ [.ref (ad 11 0 0)]) (zQ (some (.int r)) (fun t => zG D aC A nl ad σ t t.heap ∧ True) A) 0 0 A := by
  refine Met.ofW (cc := cX11_fault) (maxL := 1) (ret := (some .int)) (by decide) rfl ?_
  intro p e s m args below meth c s₁ B hml hv
  obtain ⟨rfl, hG, hZ⟩ := hv
  have hx := B.exec
  have hb := B.bytes
  have hr := B.returns
  have hts : ∀ w ∈ wsL_law, w.before ([.ref (ad 11 0 0)] : List Value).toArray s = true := fun w h => (atoms_spec B.pre) w (List.mem_cons_of_mem _ h)
  have hown : s.vm.findClass RX11 = some m.cls := findClass_of_methodNamed B.named
  have hlocks := B.notSynchronized
  have S : zS p m c cX11_fault 1 s ([.ref (ad 11 0 0)] : List Value).toArray RX11 := ⟨hx, hb, hml, hown, hts⟩
  have hS : va_S A s.heap s.heap [] := va_S.rf
  have hl := lv_entry ([.ref (ad 11 0 0)]) (n := 1) (Nat.le_of_ble_eq_true rfl)
  rw [lg_entry_eq]
  generalize (lg_sl ([.ref (ad 11 0 0)]) ++ List.replicate (1 - (lg_sl ([.ref (ad 11 0 0)])).length) Slot.unset).toArray = ls at hl ⊢
  have hl : lv_has ls 1 [(0, .ref (ad 11 0 0))] := hl
  generalize hargs : ([.ref (ad 11 0 0)] : List Value).toArray = args at S hts ⊢
  clear hargs
  have hK0 : ∀ (H : Heap) (locs : List Loc) (ls : Array Slot), zG D aC A nl ad σ s H → va_S A s.heap H locs → lv_has ls 1 [(0, .ref (ad 11 0 0))] → f_X11_fault σ = r → zWk p l e ({ frames := 0, cells := 0, slots := 0, locals := 0 } : Room) s m args below meth c A (some (.int r)) (fun t => zG D aC A nl ad σ t t.heap ∧ True) H locs (F0 m 0 ls []) := by
    intro H locs ls hG hS hl hf
    unfold f_X11_fault at hf
    refine lv_aload_n hx hb dX11_fault_0 rfl (lv_at hl 0 rfl) ?_
    refine z_get (c0 := 11) (i0 := 0) (k0 := 11) (T := TX11) (v := .int (zI σ 11 0 11)) S hG (hZ.2.1 (11, 0) (by decide)) rfl inlX11 (by decide) rfl zw_49 rfl dX11_fault_1 ?_
    have hq := hf
    subst hq
    exact z_iret S hG hS hlocks trivial hr dX11_fault_4
  exact hK0 _ _ ls hG hS hl hf
set_option maxRecDepth 100000 in
set_option maxHeartbeats 4000000 in
theorem c_X11_isDay (l : Launch) (D : va_G) (aC : Nat → ClassId) (zs : Nat × Nat) (A : Nat → Prop) (nl : zNL) (ad : Nat → Nat → Nat → Nat) (σ : zM) (x0 : Int32) (r : Int32)  (hf : f_X11_isDay x0 = r) : Met l yX11_isDay (Cond.code yX11_isDay cX11_isDay 1 (some .boolean) :: wsL_law) ({ frames := 0, cells := 0, slots := 0, locals := 0 } : Room) (zP D aC zs zfX A nl ad σ [.int x0]) (zQ (some (.int r)) (fun t => zG D aC A nl ad σ t t.heap ∧ (r = 0 ∨ r = 1)) A) 0 0 A := by
  refine Met.ofW (cc := cX11_isDay) (maxL := 1) (ret := (some .boolean)) (by decide) rfl ?_
  intro p e s m args below meth c s₁ B hml hv
  obtain ⟨rfl, hG, hZ⟩ := hv
  have hx := B.exec
  have hb := B.bytes
  have hr := B.returns
  have hts : ∀ w ∈ wsL_law, w.before ([.int x0] : List Value).toArray s = true := fun w h => (atoms_spec B.pre) w (List.mem_cons_of_mem _ h)
  have hown : s.vm.findClass RX11 = some m.cls := findClass_of_methodNamed B.named
  have hlocks := B.notSynchronized
  have S : zS p m c cX11_isDay 1 s ([.int x0] : List Value).toArray RX11 := ⟨hx, hb, hml, hown, hts⟩
  have hS : va_S A s.heap s.heap [] := va_S.rf
  have hl := lv_entry ([.int x0]) (n := 1) (Nat.le_of_ble_eq_true rfl)
  rw [lg_entry_eq]
  generalize (lg_sl ([.int x0]) ++ List.replicate (1 - (lg_sl ([.int x0])).length) Slot.unset).toArray = ls at hl ⊢
  have hl : lv_has ls 1 [(0, .int x0)] := hl
  generalize hargs : ([.int x0] : List Value).toArray = args at S hts ⊢
  clear hargs
  have hK0 : ∀ (H : Heap) (locs : List Loc) (ls : Array Slot), zG D aC A nl ad σ s H → va_S A s.heap H locs → lv_has ls 1 [(0, .int x0)] → f_X11_isDay x0 = r → zWk p l e ({ frames := 0, cells := 0, slots := 0, locals := 0 } : Room) s m args below meth c A (some (.int r)) (fun t => zG D aC A nl ad σ t t.heap ∧ (r = 0 ∨ r = 1)) H locs (F0 m 0 ls []) := by
    intro H locs ls hG hS hl hf
    unfold f_X11_isDay at hf
    refine lv_iload_n hx hb dX11_isDay_0 rfl (lv_at hl 0 rfl) ?_
    refine lv_if_lt (tgt := 15) hx hb dX11_isDay_1 (by decide) (fun c1 => ?_) (fun c1 => ?_)
    · have hf := zif_p c1 hf
      refine lv_iconst (v := 0) hx hb dX11_isDay_15 (by decide) ?_
      have hq := hf
      subst hq
      exact z_zret S hG hS hlocks (Or.inl rfl) hr dX11_isDay_16
    · have hf := zif_n c1 hf
      refine lv_iload_n hx hb dX11_isDay_4 rfl (lv_at hl 0 rfl) ?_
      refine lv_sipush (v := 1000) hx hb dX11_isDay_5 (by decide) ?_
      refine lv_icmp_gt (tgt := 15) hx hb dX11_isDay_8 (by decide) (fun c2 => ?_) (fun c2 => ?_)
      · have hf := zif_p c2 hf
        refine lv_iconst (v := 0) hx hb dX11_isDay_15 (by decide) ?_
        have hq := hf
        subst hq
        exact z_zret S hG hS hlocks (Or.inl rfl) hr dX11_isDay_16
      · have hf := zif_n c2 hf
        refine lv_iconst (v := 1) hx hb dX11_isDay_11 (by decide) ?_
        refine lv_goto (tgt := 16) hx hb dX11_isDay_12 (by decide) ?_
        have hq := hf
        subst hq
        exact z_zret S hG hS hlocks (Or.inr rfl) hr dX11_isDay_16
  exact hK0 _ _ ls hG hS hl hf
set_option maxRecDepth 100000 in
set_option maxHeartbeats 4000000 in
theorem c_X11_binds (l : Launch) (D : va_G) (aC : Nat → ClassId) (zs : Nat × Nat) (A : Nat → Prop) (nl : zNL) (ad : Nat → Nat → Nat → Nat) (σ : zM) (x1 : Int32) (r : Int32)  (hf : f_X11_binds σ x1 = some r) : Met l yX11_binds (Cond.code yX11_binds cX11_binds 2 (some .int) :: wsL_law) ({ frames := 2, cells := 0, slots := 0, locals := 44 } : Room) (zP D aC zs zfX A nl ad σ [.ref (ad 11 0 0), .int x1]) (zQ (some (.int r)) (fun t => zG D aC A nl ad σ t t.heap ∧ True) A) 0 0 A := by
  refine Met.ofW (cc := cX11_binds) (maxL := 2) (ret := (some .int)) (by decide) rfl ?_
  intro p e s m args below meth c s₁ B hml hv
  obtain ⟨rfl, hG, hZ⟩ := hv
  have hx := B.exec
  have hb := B.bytes
  have hr := B.returns
  have hts : ∀ w ∈ wsL_law, w.before ([.ref (ad 11 0 0), .int x1] : List Value).toArray s = true := fun w h => (atoms_spec B.pre) w (List.mem_cons_of_mem _ h)
  have hown : s.vm.findClass RX11 = some m.cls := findClass_of_methodNamed B.named
  have hlocks := B.notSynchronized
  have S : zS p m c cX11_binds 2 s ([.ref (ad 11 0 0), .int x1] : List Value).toArray RX11 := ⟨hx, hb, hml, hown, hts⟩
  have hS : va_S A s.heap s.heap [] := va_S.rf
  have hl := lv_entry ([.ref (ad 11 0 0), .int x1]) (n := 2) (Nat.le_of_ble_eq_true rfl)
  rw [lg_entry_eq]
  generalize (lg_sl ([.ref (ad 11 0 0), .int x1]) ++ List.replicate (2 - (lg_sl ([.ref (ad 11 0 0), .int x1])).length) Slot.unset).toArray = ls at hl ⊢
  have hl : lv_has ls 2 [(0, .ref (ad 11 0 0)), (1, .int x1)] := hl
  generalize hargs : ([.ref (ad 11 0 0), .int x1] : List Value).toArray = args at S hts ⊢
  clear hargs
  have hK0 : ∀ (H : Heap) (locs : List Loc) (ls : Array Slot), zG D aC A nl ad σ s H → va_S A s.heap H locs → lv_has ls 2 [(0, .ref (ad 11 0 0)), (1, .int x1)] → f_X11_binds σ x1 = some r → zWk p l e ({ frames := 2, cells := 0, slots := 0, locals := 44 } : Room) s m args below meth c A (some (.int r)) (fun t => zG D aC A nl ad σ t t.heap ∧ True) H locs (F0 m 0 ls []) := by
    intro H locs ls hG hS hl hf
    unfold f_X11_binds at hf
    refine lv_iload_n hx hb dX11_binds_0 rfl (lv_at hl 1 rfl) ?_
    refine z_callS (n := 1) (rest := []) (st1 := [.int (f_X11_isDay x1)]) S hG hS hZ (fun _ _ h => h) (c_X11_isDay l D aC zs A nl ad σ x1 (f_X11_isDay x1) rfl) zw_671 zw_672 zw_2 zw_673 (by decide +kernel) ⟨rfl, rfl⟩ ⟨(Nat.le_of_ble_eq_true rfl), (Nat.le_of_ble_eq_true rfl)⟩ hl.1 rfl (by rfl) (by rfl) (Nat.le_of_ble_eq_true rfl) dX11_binds_1 ⟨Nat.zero_le _, Nat.zero_le _⟩ (fun H locs hz1 hG hS => ?_)
    refine lv_if_eq (tgt := 18) hx hb dX11_binds_4 (by decide) (fun c2 => ?_) (fun c2 => ?_)
    · have hf := zif_p c2 hf
      refine lv_iconst (v := (-1)) hx hb dX11_binds_18 (by decide) ?_
      have hq := (Option.some.inj hf)
      subst hq
      exact z_iret S hG hS hlocks trivial hr dX11_binds_19
    · have hf := zif_n c2 hf
      refine lv_aload_n hx hb dX11_binds_7 rfl (lv_at hl 0 rfl) ?_
      refine z_get (c0 := 11) (i0 := 0) (k0 := 2) (T := TX11) (v := .ref (ad 1 0 0)) S hG (hZ.2.1 (11, 0) (by decide)) rfl inlX11 (by decide) rfl zw_24 rfl dX11_binds_8 ?_
      refine lv_iload_n hx hb dX11_binds_11 rfl (lv_at hl 1 rfl) ?_
      obtain ⟨r3, er3, hf⟩ := zbi hf
      refine z_callV (n := 1) (rest := []) (st1 := [.int r3]) (c0 := 1) (i0 := 0) (hZ.2.1 (1, 0) (by decide)) (by rfl) S hG hS hZ (fun _ _ h => h) (c_X1_numberOn l D aC zs A nl ad σ x1 r3 er3) zw_674 zw_675 zw_676 zw_23 zw_677 (by decide +kernel) ⟨rfl, rfl⟩ ⟨(Nat.le_of_ble_eq_true rfl), (Nat.le_of_ble_eq_true rfl)⟩ hl.1 rfl (by rfl) (by rfl) (Nat.le_of_ble_eq_true rfl) dX11_binds_12 ⟨Nat.zero_le _, Nat.zero_le _⟩ (fun H locs hz4 hG hS => ?_)
      refine lv_goto (tgt := 19) hx hb dX11_binds_15 (by decide) ?_
      have hq := (Option.some.inj hf)
      subst hq
      exact z_iret S hG hS hlocks trivial hr dX11_binds_19
  exact hK0 _ _ ls hG hS hl hf
set_option maxRecDepth 100000 in
set_option maxHeartbeats 4000000 in
theorem c_X11_law (l : Launch) (D : va_G) (aC : Nat → ClassId) (zs : Nat × Nat) (A : Nat → Prop) (nl : zNL) (ad : Nat → Nat → Nat → Nat) (σ : zM) (x1 : Int32) (x2 : Int32) (r : Int32)  (hf : f_X11_law σ x1 x2 = some r) : Met l yX11_law (Cond.code yX11_law cX11_law 4 (some .int) :: wsL_law) ({ frames := 3, cells := 0, slots := 0, locals := 71 } : Room) (zP D aC zs zfX A nl ad σ [.ref (ad 11 0 0), .int x1, .int x2]) (zQ (some (.int r)) (fun t => zG D aC A nl ad σ t t.heap ∧ True) A) 0 0 A := by
  refine Met.ofW (cc := cX11_law) (maxL := 4) (ret := (some .int)) (by decide) rfl ?_
  intro p e s m args below meth c s₁ B hml hv
  obtain ⟨rfl, hG, hZ⟩ := hv
  have hx := B.exec
  have hb := B.bytes
  have hr := B.returns
  have hts : ∀ w ∈ wsL_law, w.before ([.ref (ad 11 0 0), .int x1, .int x2] : List Value).toArray s = true := fun w h => (atoms_spec B.pre) w (List.mem_cons_of_mem _ h)
  have hown : s.vm.findClass RX11 = some m.cls := findClass_of_methodNamed B.named
  have hlocks := B.notSynchronized
  have S : zS p m c cX11_law 4 s ([.ref (ad 11 0 0), .int x1, .int x2] : List Value).toArray RX11 := ⟨hx, hb, hml, hown, hts⟩
  have hS : va_S A s.heap s.heap [] := va_S.rf
  have hl := lv_entry ([.ref (ad 11 0 0), .int x1, .int x2]) (n := 4) (Nat.le_of_ble_eq_true rfl)
  rw [lg_entry_eq]
  generalize (lg_sl ([.ref (ad 11 0 0), .int x1, .int x2]) ++ List.replicate (4 - (lg_sl ([.ref (ad 11 0 0), .int x1, .int x2])).length) Slot.unset).toArray = ls at hl ⊢
  have hl : lv_has ls 4 [(0, .ref (ad 11 0 0)), (1, .int x1), (2, .int x2)] := hl
  generalize hargs : ([.ref (ad 11 0 0), .int x1, .int x2] : List Value).toArray = args at S hts ⊢
  clear hargs
  have KJ34 : ∀ (y3b34 : Nat) (h_y3b34 : zin nl 0 y3b34)  (H : Heap) (locs : List Loc) (ls : Array Slot), zG D aC A nl ad σ s H → va_S A s.heap H locs → lv_has ls 4 [(0, .ref (ad 11 0 0)), (1, .int x1), (2, .int x2), (3, .ref (ad 0 y3b34 0))] → (f_X11_law_B34 σ x1 x2 y3b34) = some r → zWk p l e ({ frames := 3, cells := 0, slots := 0, locals := 71 } : Room) s m args below meth c A (some (.int r)) (fun t => zG D aC A nl ad σ t t.heap ∧ True) H locs (F0 m 34 ls []) := by
    intro y3b34 h_y3b34  H locs ls hG hS hl hf
    unfold f_X11_law_B34 at hf
    refine lv_iload_n hx hb dX11_law_34 rfl (lv_at hl 2 rfl) ?_
    refine lv_bipush (v := 11) hx hb dX11_law_35 (by decide) ?_
    refine lv_icmp_ne (tgt := 45) hx hb dX11_law_37 (by decide) (fun c6 => ?_) (fun c6 => ?_)
    · have hf := zif_n c6 hf
      refine lv_iload_n hx hb dX11_law_45 rfl (lv_at hl 2 rfl) ?_
      refine lv_bipush (v := 12) hx hb dX11_law_46 (by decide) ?_
      refine lv_icmp_ne (tgt := 56) hx hb dX11_law_48 (by decide) (fun c7 => ?_) (fun c7 => ?_)
      · have hf := zif_n c7 hf
        refine lv_iload_n hx hb dX11_law_56 rfl (lv_at hl 2 rfl) ?_
        refine lv_bipush (v := 20) hx hb dX11_law_57 (by decide) ?_
        refine lv_icmp_le (tgt := 79) hx hb dX11_law_59 (by decide) (fun c8 => ?_) (fun c8 => ?_)
        · have hf := zif_p c8 hf
          refine lv_iconst (v := (-1)) hx hb dX11_law_79 (by decide) ?_
          have hq := (Option.some.inj hf)
          subst hq
          exact z_iret S hG hS hlocks trivial hr dX11_law_80
        · have hf := zif_n c8 hf
          refine lv_iload_n hx hb dX11_law_62 rfl (lv_at hl 2 rfl) ?_
          refine lv_bipush (v := 32) hx hb dX11_law_63 (by decide) ?_
          refine lv_icmp_gt (tgt := 79) hx hb dX11_law_65 (by decide) (fun c9 => ?_) (fun c9 => ?_)
          · have hf := zif_p c9 hf
            refine lv_iconst (v := (-1)) hx hb dX11_law_79 (by decide) ?_
            have hq := (Option.some.inj hf)
            subst hq
            exact z_iret S hG hS hlocks trivial hr dX11_law_80
          · have hf := zif_n c9 hf
            refine lv_aload_n hx hb dX11_law_68 rfl (lv_at hl 3 rfl) ?_
            refine lv_iload_n hx hb dX11_law_69 rfl (lv_at hl 2 rfl) ?_
            refine lv_bipush (v := 20) hx hb dX11_law_70 (by decide) ?_
            refine lv_isub hx hb dX11_law_72 ?_
            obtain ⟨r10, er10, hf⟩ := zbi hf
            refine z_callV (n := 1) (rest := []) (st1 := [.int r10]) (c0 := 0) (i0 := y3b34) h_y3b34 (by rfl) S hG hS hZ (fun _ _ h => h) (c_X0_rate l D aC zs A nl ad σ y3b34 (x2 - 20) r10 h_y3b34 er10) zw_719 zw_716 zw_717 zw_76 zw_718 (by decide +kernel) ⟨rfl, rfl⟩ ⟨(Nat.le_of_ble_eq_true rfl), (Nat.le_of_ble_eq_true rfl)⟩ hl.1 rfl (by rfl) (by rfl) (Nat.le_of_ble_eq_true rfl) dX11_law_73 ⟨Nat.zero_le _, Nat.zero_le _⟩ (fun H locs hz11 hG hS => ?_)
            refine lv_goto (tgt := 80) hx hb dX11_law_76 (by decide) ?_
            have hq := (Option.some.inj hf)
            subst hq
            exact z_iret S hG hS hlocks trivial hr dX11_law_80
      · have hf := zif_p c7 hf
        refine lv_aload_n hx hb dX11_law_51 rfl (lv_at hl 3 rfl) ?_
        obtain ⟨r12, er12, hf⟩ := zbi hf
        refine z_callV (n := 0) (rest := []) (st1 := [.int r12]) (c0 := 0) (i0 := y3b34) h_y3b34 (by rfl) S hG hS hZ (fun _ _ h => h) (c_X0_canBeMet l D aC zs A nl ad σ y3b34 r12 h_y3b34 er12) zw_706 zw_707 zw_708 zw_76 zw_709 (by decide +kernel) ⟨rfl, rfl⟩ ⟨(Nat.le_of_ble_eq_true rfl), (Nat.le_of_ble_eq_true rfl)⟩ hl.1 rfl (by rfl) (by rfl) (Nat.le_of_ble_eq_true rfl) dX11_law_52 ⟨Nat.zero_le _, Nat.zero_le _⟩ (fun H locs hz13 hG hS => ?_)
        have hq := (Option.some.inj hf)
        subst hq
        exact z_iret S hG hS hlocks trivial hr dX11_law_55
    · have hf := zif_p c6 hf
      refine lv_aload_n hx hb dX11_law_40 rfl (lv_at hl 3 rfl) ?_
      refine z_get (c0 := 0) (i0 := y3b34) (k0 := 7) (T := TX0) (v := .int (zI σ 0 y3b34 7)) S hG h_y3b34 rfl inlX0 (by decide) rfl zw_696 rfl dX11_law_41 ?_
      have hq := (Option.some.inj hf)
      subst hq
      exact z_iret S hG hS hlocks trivial hr dX11_law_44
  have hK0 : ∀ (H : Heap) (locs : List Loc) (ls : Array Slot), zG D aC A nl ad σ s H → va_S A s.heap H locs → lv_has ls 4 [(0, .ref (ad 11 0 0)), (1, .int x1), (2, .int x2)] → f_X11_law σ x1 x2 = some r → zWk p l e ({ frames := 3, cells := 0, slots := 0, locals := 71 } : Room) s m args below meth c A (some (.int r)) (fun t => zG D aC A nl ad σ t t.heap ∧ True) H locs (F0 m 0 ls []) := by
    intro H locs ls hG hS hl hf
    unfold f_X11_law at hf
    refine lv_iload_n hx hb dX11_law_0 rfl (lv_at hl 1 rfl) ?_
    refine z_callS (n := 1) (rest := []) (st1 := [.int (f_X11_isDay x1)]) S hG hS hZ (fun _ _ h => h) (c_X11_isDay l D aC zs A nl ad σ x1 (f_X11_isDay x1) rfl) zw_671 zw_672 zw_2 zw_673 (by decide +kernel) ⟨rfl, rfl⟩ ⟨(Nat.le_of_ble_eq_true rfl), (Nat.le_of_ble_eq_true rfl)⟩ hl.1 rfl (by rfl) (by rfl) (Nat.le_of_ble_eq_true rfl) dX11_law_1 ⟨Nat.zero_le _, Nat.zero_le _⟩ (fun H locs hz1 hG hS => ?_)
    refine lv_if_ne (tgt := 9) hx hb dX11_law_4 (by decide) (fun c2 => ?_) (fun c2 => ?_)
    · have hf := zif_n c2 hf
      refine lv_aload_n hx hb dX11_law_9 rfl (lv_at hl 0 rfl) ?_
      refine z_get (c0 := 11) (i0 := 0) (k0 := 2) (T := TX11) (v := .ref (ad 1 0 0)) S hG (hZ.2.1 (11, 0) (by decide)) rfl inlX11 (by decide) rfl zw_24 rfl dX11_law_10 ?_
      refine lv_iload_n hx hb dX11_law_13 rfl (lv_at hl 1 rfl) ?_
      obtain ⟨r3, er3, hf⟩ := zbi hf
      refine z_callV (n := 1) (rest := []) (st1 := [.ref (ad 0 r3 0)]) (c0 := 1) (i0 := 0) (hZ.2.1 (1, 0) (by decide)) (by rfl) S hG hS hZ (fun _ _ h => h) (c_X1_on l D aC zs A nl ad σ x1 r3 er3) zw_697 zw_698 zw_699 zw_23 zw_700 (by decide +kernel) ⟨rfl, rfl⟩ ⟨(Nat.le_of_ble_eq_true rfl), (Nat.le_of_ble_eq_true rfl)⟩ hl.1 rfl (by rfl) (by rfl) (Nat.le_of_ble_eq_true rfl) dX11_law_14 ⟨Nat.zero_le _, Nat.zero_le _⟩ (fun H locs hz4 hG hS => ?_)
      refine lv_astore_n (lv' := [(3, .ref (ad 0 r3 0)), (0, .ref (ad 11 0 0)), (1, .int x1), (2, .int x2)]) hx hb dX11_law_17 rfl hl (by decide) rfl (fun ls hl => ?_)
      refine lv_iload_n hx hb dX11_law_18 rfl (lv_at hl 3 rfl) ?_
      refine lv_if_lt (tgt := 34) hx hb dX11_law_19 (by decide) (fun c5 => ?_) (fun c5 => ?_)
      · have hf := zif_p c5 hf
        exact KJ34 r3 hz4 H locs ls hG hS (lv_sub hl [1, 2, 3, 0] rfl) hf
      · have hf := zif_n c5 hf
        refine lv_iload_n hx hb dX11_law_22 rfl (lv_at hl 3 rfl) ?_
        refine lv_bipush (v := 11) hx hb dX11_law_23 (by decide) ?_
        refine lv_icmp_ge (tgt := 34) hx hb dX11_law_25 (by decide) (fun c14 => ?_) (fun c14 => ?_)
        · have hf := zif_p c14 hf
          exact KJ34 r3 hz4 H locs ls hG hS (lv_sub hl [1, 2, 3, 0] rfl) hf
        · have hf := zif_n c14 hf
          refine lv_aload_n hx hb dX11_law_28 rfl (lv_at hl 0 rfl) ?_
          refine lv_iload_n hx hb dX11_law_29 rfl (lv_at hl 3 rfl) ?_
          obtain ⟨r15, er15, hf⟩ := zbi hf
          refine z_callV (n := 1) (rest := []) (st1 := [.int r15]) (c0 := 0) (i0 := r3) hz4 (by rfl) S hG hS hZ (fun _ _ h => h) (c_X0_term l D aC zs A nl ad σ r3 x2 r15 hz4 er15) zw_702 zw_703 zw_704 zw_76 zw_705 (by decide +kernel) ⟨rfl, rfl⟩ ⟨(Nat.le_of_ble_eq_true rfl), (Nat.le_of_ble_eq_true rfl)⟩ hl.1 rfl (by rfl) (by rfl) (Nat.le_of_ble_eq_true rfl) dX11_law_30 ⟨Nat.zero_le _, Nat.zero_le _⟩ (fun H locs hz16 hG hS => ?_)
          have hq := (Option.some.inj hf)
          subst hq
          exact z_iret S hG hS hlocks trivial hr dX11_law_33
    · have hf := zif_p c2 hf
      refine lv_iconst (v := (-1)) hx hb dX11_law_7 (by decide) ?_
      have hq := (Option.some.inj hf)
      subst hq
      exact z_iret S hG hS hlocks trivial hr dX11_law_8
  exact hK0 _ _ ls hG hS hl hf
set_option maxRecDepth 100000 in
set_option maxHeartbeats 4000000 in
theorem c_X11_name (l : Launch) (D : va_G) (aC : Nat → ClassId) (zs : Nat × Nat) (A : Nat → Prop) (nl : zNL) (ad : Nat → Nat → Nat → Nat) (σ : zM) (x1 : Int32) (x2 : Int32) (r : Int32)  (hf : f_X11_name σ x1 x2 = some r) : Met l yX11_name (Cond.code yX11_name cX11_name 5 (some .int) :: wsL_law) ({ frames := 2, cells := 0, slots := 0, locals := 46 } : Room) (zP D aC zs zfX A nl ad σ [.ref (ad 11 0 0), .int x1, .int x2]) (zQ (some (.int r)) (fun t => zG D aC A nl ad σ t t.heap ∧ True) A) 0 0 A := by
  refine Met.ofW (cc := cX11_name) (maxL := 5) (ret := (some .int)) (by decide) rfl ?_
  intro p e s m args below meth c s₁ B hml hv
  obtain ⟨rfl, hG, hZ⟩ := hv
  have hx := B.exec
  have hb := B.bytes
  have hr := B.returns
  have hts : ∀ w ∈ wsL_law, w.before ([.ref (ad 11 0 0), .int x1, .int x2] : List Value).toArray s = true := fun w h => (atoms_spec B.pre) w (List.mem_cons_of_mem _ h)
  have hown : s.vm.findClass RX11 = some m.cls := findClass_of_methodNamed B.named
  have hlocks := B.notSynchronized
  have S : zS p m c cX11_name 5 s ([.ref (ad 11 0 0), .int x1, .int x2] : List Value).toArray RX11 := ⟨hx, hb, hml, hown, hts⟩
  have hS : va_S A s.heap s.heap [] := va_S.rf
  have hl := lv_entry ([.ref (ad 11 0 0), .int x1, .int x2]) (n := 5) (Nat.le_of_ble_eq_true rfl)
  rw [lg_entry_eq]
  generalize (lg_sl ([.ref (ad 11 0 0), .int x1, .int x2]) ++ List.replicate (5 - (lg_sl ([.ref (ad 11 0 0), .int x1, .int x2])).length) Slot.unset).toArray = ls at hl ⊢
  have hl : lv_has ls 5 [(0, .ref (ad 11 0 0)), (1, .int x1), (2, .int x2)] := hl
  generalize hargs : ([.ref (ad 11 0 0), .int x1, .int x2] : List Value).toArray = args at S hts ⊢
  clear hargs
  have hK0 : ∀ (H : Heap) (locs : List Loc) (ls : Array Slot), zG D aC A nl ad σ s H → va_S A s.heap H locs → lv_has ls 5 [(0, .ref (ad 11 0 0)), (1, .int x1), (2, .int x2)] → f_X11_name σ x1 x2 = some r → zWk p l e ({ frames := 2, cells := 0, slots := 0, locals := 46 } : Room) s m args below meth c A (some (.int r)) (fun t => zG D aC A nl ad σ t t.heap ∧ True) H locs (F0 m 0 ls []) := by
    intro H locs ls hG hS hl hf
    unfold f_X11_name at hf
    refine lv_aload_n hx hb dX11_name_0 rfl (lv_at hl 0 rfl) ?_
    refine z_get (c0 := 11) (i0 := 0) (k0 := 1) (T := TX11) (v := .ref (ad 5 0 0)) S hG (hZ.2.1 (11, 0) (by decide)) rfl inlX11 (by decide) rfl zw_20 rfl dX11_name_1 ?_
    refine lv_iload_n hx hb dX11_name_4 rfl (lv_at hl 1 rfl) ?_
    obtain ⟨r1, er1, hf⟩ := zbi hf
    refine z_callV (n := 1) (rest := []) (st1 := [.long r1]) (c0 := 5) (i0 := 0) (hZ.2.1 (5, 0) (by decide)) (by rfl) S hG hS hZ (fun _ _ h => h) (c_X5_wordOf l D aC zs A nl ad σ x1 r1 er1) zw_746 zw_747 zw_748 zw_19 zw_749 (by decide +kernel) ⟨rfl, rfl⟩ ⟨(Nat.le_of_ble_eq_true rfl), (Nat.le_of_ble_eq_true rfl)⟩ hl.1 rfl (by rfl) (by rfl) (Nat.le_of_ble_eq_true rfl) dX11_name_5 ⟨Nat.zero_le _, Nat.zero_le _⟩ (fun H locs hz2 hG hS => ?_)
    refine lv_lstore_n (lv' := [(3, .long r1), (0, .ref (ad 11 0 0)), (1, .int x1), (2, .int x2)]) hx hb dX11_name_8 rfl hl (by decide) rfl (fun ls hl => ?_)
    refine lv_lload_n hx hb dX11_name_9 rfl (lv_at hl 0 rfl) ?_
    refine lv_lconst (v := 0) hx hb dX11_name_10 (by decide) ?_
    refine W.lcmp hx hb dX11_name_11 ?_
    refine lv_if_ne (tgt := 17) hx hb dX11_name_12 (by decide) (fun c3 => ?_) (fun c3 => ?_)
    · have hf := zif_n (fun h => c3 ((lg_cmp_eq r1 0).mpr h)) hf
      refine lv_iload_n hx hb dX11_name_17 rfl (lv_at hl 3 rfl) ?_
      refine lv_iconst (v := (-1)) hx hb dX11_name_18 (by decide) ?_
      refine lv_icmp_ne (tgt := 29) hx hb dX11_name_19 (by decide) (fun c4 => ?_) (fun c4 => ?_)
      · have hf := zif_n c4 hf
        refine lv_lload_n hx hb dX11_name_29 rfl (lv_at hl 0 rfl) ?_
        refine lv_iload_n hx hb dX11_name_30 rfl (lv_at hl 3 rfl) ?_
        obtain ⟨r5, er5, hf⟩ := zbi hf
        refine z_callS (n := 2) (rest := []) (st1 := [.int r5]) S hG hS hZ (fun _ _ h => h) (c_X10_letterOf l D aC zs A nl ad σ r1 x2 r5 er5) zw_753 zw_754 zw_109 zw_755 (by decide +kernel) ⟨rfl, rfl⟩ ⟨(Nat.le_of_ble_eq_true rfl), (Nat.le_of_ble_eq_true rfl)⟩ hl.1 rfl (by rfl) (by rfl) (Nat.le_of_ble_eq_true rfl) dX11_name_31 ⟨Nat.zero_le _, Nat.zero_le _⟩ (fun H locs hz6 hG hS => ?_)
        have hq := (Option.some.inj hf)
        subst hq
        exact z_iret S hG hS hlocks trivial hr dX11_name_34
      · have hf := zif_p c4 hf
        refine lv_lload_n hx hb dX11_name_22 rfl (lv_at hl 0 rfl) ?_
        obtain ⟨r7, er7, hf⟩ := zbi hf
        refine z_callS (n := 1) (rest := []) (st1 := [.int r7]) S hG hS hZ (fun _ _ h => h) (c_X10_lengthOf l D aC zs A nl ad σ r1 r7 er7) zw_750 zw_751 zw_109 zw_752 (by decide +kernel) ⟨rfl, rfl⟩ ⟨(Nat.le_of_ble_eq_true rfl), (Nat.le_of_ble_eq_true rfl)⟩ hl.1 rfl (by rfl) (by rfl) (Nat.le_of_ble_eq_true rfl) dX11_name_23 ⟨Nat.zero_le _, Nat.zero_le _⟩ (fun H locs hz8 hG hS => ?_)
        refine lv_goto (tgt := 34) hx hb dX11_name_26 (by decide) ?_
        have hq := (Option.some.inj hf)
        subst hq
        exact z_iret S hG hS hlocks trivial hr dX11_name_34
    · have hf := zif_p ((lg_cmp_eq r1 0).mp  c3) hf
      refine lv_iconst (v := (-1)) hx hb dX11_name_15 (by decide) ?_
      have hq := (Option.some.inj hf)
      subst hq
      exact z_iret S hG hS hlocks trivial hr dX11_name_16
  exact hK0 _ _ ls hG hS hl hf
set_option maxRecDepth 100000 in
set_option maxHeartbeats 4000000 in
theorem c_X11_sun (l : Launch) (D : va_G) (aC : Nat → ClassId) (zs : Nat × Nat) (A : Nat → Prop) (nl : zNL) (ad : Nat → Nat → Nat → Nat) (σ : zM) (x1 : Int32) (x2 : Int32) (r : Int32) (σ' : zM)  (hf : f_X11_sun σ x1 x2 = some (r, σ')) : Met l yX11_sun (Cond.code yX11_sun cX11_sun 3 (some .boolean) :: wsL_law) ({ frames := 1, cells := 0, slots := 0, locals := 22 } : Room) (zP D aC zs zfX A nl ad σ [.ref (ad 11 0 0), .int x1, .int x2]) (zQ (some (.int r)) (fun t => zG D aC A nl ad σ' t t.heap ∧ (r = 0 ∨ r = 1)) A) 0 0 A := by
  refine Met.ofW (cc := cX11_sun) (maxL := 3) (ret := (some .boolean)) (by decide) rfl ?_
  intro p e s m args below meth c s₁ B hml hv
  obtain ⟨rfl, hG, hZ⟩ := hv
  have hx := B.exec
  have hb := B.bytes
  have hr := B.returns
  have hts : ∀ w ∈ wsL_law, w.before ([.ref (ad 11 0 0), .int x1, .int x2] : List Value).toArray s = true := fun w h => (atoms_spec B.pre) w (List.mem_cons_of_mem _ h)
  have hown : s.vm.findClass RX11 = some m.cls := findClass_of_methodNamed B.named
  have hlocks := B.notSynchronized
  have S : zS p m c cX11_sun 3 s ([.ref (ad 11 0 0), .int x1, .int x2] : List Value).toArray RX11 := ⟨hx, hb, hml, hown, hts⟩
  have hS : va_S A s.heap s.heap [] := va_S.rf
  have hl := lv_entry ([.ref (ad 11 0 0), .int x1, .int x2]) (n := 3) (Nat.le_of_ble_eq_true rfl)
  rw [lg_entry_eq]
  generalize (lg_sl ([.ref (ad 11 0 0), .int x1, .int x2]) ++ List.replicate (3 - (lg_sl ([.ref (ad 11 0 0), .int x1, .int x2])).length) Slot.unset).toArray = ls at hl ⊢
  have hl : lv_has ls 3 [(0, .ref (ad 11 0 0)), (1, .int x1), (2, .int x2)] := hl
  generalize hargs : ([.ref (ad 11 0 0), .int x1, .int x2] : List Value).toArray = args at S hts ⊢
  clear hargs
  have hK0 : ∀ (H : Heap) (locs : List Loc) (ls : Array Slot), zG D aC A nl ad σ s H → va_S A s.heap H locs → lv_has ls 3 [(0, .ref (ad 11 0 0)), (1, .int x1), (2, .int x2)] → f_X11_sun σ x1 x2 = some (r, σ') → zWk p l e ({ frames := 1, cells := 0, slots := 0, locals := 22 } : Room) s m args below meth c A (some (.int r)) (fun t => zG D aC A nl ad σ' t t.heap ∧ (r = 0 ∨ r = 1)) H locs (F0 m 0 ls []) := by
    intro H locs ls hG hS hl hf
    unfold f_X11_sun at hf
    refine lv_iload_n hx hb dX11_sun_0 rfl (lv_at hl 1 rfl) ?_
    refine lv_if_lt (tgt := 19) hx hb dX11_sun_1 (by decide) (fun c1 => ?_) (fun c1 => ?_)
    · have hf := zif_p c1 hf
      refine lv_iconst (v := 0) hx hb dX11_sun_19 (by decide) ?_
      obtain ⟨hq1, hq2⟩ := Prod.mk.inj (Option.some.inj hf)
      subst hq1
      subst hq2
      exact z_zret S hG hS hlocks (Or.inl rfl) hr dX11_sun_20
    · have hf := zif_n c1 hf
      refine lv_iload_n hx hb dX11_sun_4 rfl (lv_at hl 1 rfl) ?_
      refine lv_iconst (v := 4) hx hb dX11_sun_5 (by decide) ?_
      refine lv_icmp_ge (tgt := 19) hx hb dX11_sun_6 (by decide) (fun c2 => ?_) (fun c2 => ?_)
      · have hf := zif_p c2 hf
        refine lv_iconst (v := 0) hx hb dX11_sun_19 (by decide) ?_
        obtain ⟨hq1, hq2⟩ := Prod.mk.inj (Option.some.inj hf)
        subst hq1
        subst hq2
        exact z_zret S hG hS hlocks (Or.inl rfl) hr dX11_sun_20
      · have hf := zif_n c2 hf
        refine lv_iload_n hx hb dX11_sun_9 rfl (lv_at hl 2 rfl) ?_
        refine lv_if_lt (tgt := 19) hx hb dX11_sun_10 (by decide) (fun c3 => ?_) (fun c3 => ?_)
        · have hf := zif_p c3 hf
          refine lv_iconst (v := 0) hx hb dX11_sun_19 (by decide) ?_
          obtain ⟨hq1, hq2⟩ := Prod.mk.inj (Option.some.inj hf)
          subst hq1
          subst hq2
          exact z_zret S hG hS hlocks (Or.inl rfl) hr dX11_sun_20
        · have hf := zif_n c3 hf
          refine lv_iload_n hx hb dX11_sun_13 rfl (lv_at hl 2 rfl) ?_
          refine lv_bipush (v := 12) hx hb dX11_sun_14 (by decide) ?_
          refine lv_icmp_le (tgt := 21) hx hb dX11_sun_16 (by decide) (fun c4 => ?_) (fun c4 => ?_)
          · have hf := zif_p c4 hf
            refine lv_aload_n hx hb dX11_sun_21 rfl (lv_at hl 0 rfl) ?_
            refine z_get (c0 := 11) (i0 := 0) (k0 := 4) (T := TX11) (v := .ref (ad 8 0 0)) S hG (hZ.2.1 (11, 0) (by decide)) rfl inlX11 (by decide) rfl zw_32 rfl dX11_sun_22 ?_
            refine lv_iload_n hx hb dX11_sun_25 rfl (lv_at hl 1 rfl) ?_
            refine lv_iload_n hx hb dX11_sun_26 rfl (lv_at hl 2 rfl) ?_
            obtain ⟨σ5, eσ5, hf⟩ := zbi hf
            refine z_callV (n := 2) (rest := []) (st1 := []) (c0 := 8) (i0 := 0) (hZ.2.1 (8, 0) (by decide)) (by rfl) S hG hS hZ (fun _ _ h => h) (c_X8_setSun l D aC zs A nl ad σ x1 x2 σ5 eσ5) zw_770 zw_771 zw_772 zw_31 zw_773 (by decide +kernel) ⟨rfl, rfl⟩ ⟨(Nat.le_of_ble_eq_true rfl), (Nat.le_of_ble_eq_true rfl)⟩ hl.1 rfl (by rfl) (by rfl) (Nat.le_of_ble_eq_true rfl) dX11_sun_27 ⟨Nat.zero_le _, Nat.zero_le _⟩ (fun H locs hz6 hG hS => ?_)
            refine lv_aload_n hx hb dX11_sun_30 rfl (lv_at hl 0 rfl) ?_
            refine z_get (c0 := 11) (i0 := 0) (k0 := 4) (T := TX11) (v := .ref (ad 8 0 0)) S hG (hZ.2.1 (11, 0) (by decide)) rfl inlX11 (by decide) rfl zw_32 rfl dX11_sun_31 ?_
            obtain ⟨σ7, eσ7, hf⟩ := zlt_s hf
            refine z_callV (n := 0) (rest := []) (st1 := []) (c0 := 8) (i0 := 0) (hZ.2.1 (8, 0) (by decide)) (by rfl) S hG hS hZ (fun _ _ h => h) (c_X8_forgetMend l D aC zs A nl ad σ5 σ7 eσ7.symm) zw_270 zw_271 zw_272 zw_31 zw_273 (by decide +kernel) ⟨rfl, rfl⟩ ⟨(Nat.le_of_ble_eq_true rfl), (Nat.le_of_ble_eq_true rfl)⟩ hl.1 rfl (by rfl) (by rfl) (Nat.le_of_ble_eq_true rfl) dX11_sun_34 ⟨Nat.zero_le _, Nat.zero_le _⟩ (fun H locs hz8 hG hS => ?_)
            refine lv_iconst (v := 1) hx hb dX11_sun_37 (by decide) ?_
            obtain ⟨hq1, hq2⟩ := Prod.mk.inj (Option.some.inj hf)
            subst hq1
            subst hq2
            exact z_zret S hG hS hlocks (Or.inr rfl) hr dX11_sun_38
          · have hf := zif_n c4 hf
            refine lv_iconst (v := 0) hx hb dX11_sun_19 (by decide) ?_
            obtain ⟨hq1, hq2⟩ := Prod.mk.inj (Option.some.inj hf)
            subst hq1
            subst hq2
            exact z_zret S hG hS hlocks (Or.inl rfl) hr dX11_sun_20
  exact hK0 _ _ ls hG hS hl hf
set_option maxRecDepth 100000 in
set_option maxHeartbeats 4000000 in
theorem c_X11_isAuthor (l : Launch) (D : va_G) (aC : Nat → ClassId) (zs : Nat × Nat) (A : Nat → Prop) (nl : zNL) (ad : Nat → Nat → Nat → Nat) (σ : zM) (x0 : Int32) (r : Int32)  (hf : f_X11_isAuthor x0 = r) : Met l yX11_isAuthor (Cond.code yX11_isAuthor cX11_isAuthor 1 (some .boolean) :: wsL_law) ({ frames := 0, cells := 0, slots := 0, locals := 0 } : Room) (zP D aC zs zfX A nl ad σ [.int x0]) (zQ (some (.int r)) (fun t => zG D aC A nl ad σ t t.heap ∧ (r = 0 ∨ r = 1)) A) 0 0 A := by
  refine Met.ofW (cc := cX11_isAuthor) (maxL := 1) (ret := (some .boolean)) (by decide) rfl ?_
  intro p e s m args below meth c s₁ B hml hv
  obtain ⟨rfl, hG, hZ⟩ := hv
  have hx := B.exec
  have hb := B.bytes
  have hr := B.returns
  have hts : ∀ w ∈ wsL_law, w.before ([.int x0] : List Value).toArray s = true := fun w h => (atoms_spec B.pre) w (List.mem_cons_of_mem _ h)
  have hown : s.vm.findClass RX11 = some m.cls := findClass_of_methodNamed B.named
  have hlocks := B.notSynchronized
  have S : zS p m c cX11_isAuthor 1 s ([.int x0] : List Value).toArray RX11 := ⟨hx, hb, hml, hown, hts⟩
  have hS : va_S A s.heap s.heap [] := va_S.rf
  have hl := lv_entry ([.int x0]) (n := 1) (Nat.le_of_ble_eq_true rfl)
  rw [lg_entry_eq]
  generalize (lg_sl ([.int x0]) ++ List.replicate (1 - (lg_sl ([.int x0])).length) Slot.unset).toArray = ls at hl ⊢
  have hl : lv_has ls 1 [(0, .int x0)] := hl
  generalize hargs : ([.int x0] : List Value).toArray = args at S hts ⊢
  clear hargs
  have hK0 : ∀ (H : Heap) (locs : List Loc) (ls : Array Slot), zG D aC A nl ad σ s H → va_S A s.heap H locs → lv_has ls 1 [(0, .int x0)] → f_X11_isAuthor x0 = r → zWk p l e ({ frames := 0, cells := 0, slots := 0, locals := 0 } : Room) s m args below meth c A (some (.int r)) (fun t => zG D aC A nl ad σ t t.heap ∧ (r = 0 ∨ r = 1)) H locs (F0 m 0 ls []) := by
    intro H locs ls hG hS hl hf
    unfold f_X11_isAuthor at hf
    refine lv_iload_n hx hb dX11_isAuthor_0 rfl (lv_at hl 0 rfl) ?_
    refine lv_if_lt (tgt := 14) hx hb dX11_isAuthor_1 (by decide) (fun c1 => ?_) (fun c1 => ?_)
    · have hf := zif_p c1 hf
      refine lv_iconst (v := 0) hx hb dX11_isAuthor_14 (by decide) ?_
      have hq := hf
      subst hq
      exact z_zret S hG hS hlocks (Or.inl rfl) hr dX11_isAuthor_15
    · have hf := zif_n c1 hf
      refine lv_iload_n hx hb dX11_isAuthor_4 rfl (lv_at hl 0 rfl) ?_
      refine lv_bipush (v := 40) hx hb dX11_isAuthor_5 (by decide) ?_
      refine lv_icmp_ge (tgt := 14) hx hb dX11_isAuthor_7 (by decide) (fun c2 => ?_) (fun c2 => ?_)
      · have hf := zif_p c2 hf
        refine lv_iconst (v := 0) hx hb dX11_isAuthor_14 (by decide) ?_
        have hq := hf
        subst hq
        exact z_zret S hG hS hlocks (Or.inl rfl) hr dX11_isAuthor_15
      · have hf := zif_n c2 hf
        refine lv_iconst (v := 1) hx hb dX11_isAuthor_10 (by decide) ?_
        refine lv_goto (tgt := 15) hx hb dX11_isAuthor_11 (by decide) ?_
        have hq := hf
        subst hq
        exact z_zret S hG hS hlocks (Or.inr rfl) hr dX11_isAuthor_15
  exact hK0 _ _ ls hG hS hl hf
set_option maxRecDepth 100000 in
set_option maxHeartbeats 4000000 in
theorem c_X11_schemeAt (l : Launch) (D : va_G) (aC : Nat → ClassId) (zs : Nat × Nat) (A : Nat → Prop) (nl : zNL) (ad : Nat → Nat → Nat → Nat) (σ : zM) (x1 : Int32) (r : Option Nat)  (hf : f_X11_schemeAt σ x1 = some r) : Met l yX11_schemeAt (Cond.code yX11_schemeAt cX11_schemeAt 2 (some (.object "BuildingJury$Scheme")) :: wsL_law) ({ frames := 0, cells := 0, slots := 0, locals := 0 } : Room) (zP D aC zs zfX A nl ad σ [.ref (ad 11 0 0), .int x1]) (zQ (some (va_rf (Option.map (fun j => ad 7 j 0) r))) (fun t => zG D aC A nl ad σ t t.heap ∧ (∀ j, r = some j → zin nl 7 j)) A) 0 0 A := by
  refine Met.ofW (cc := cX11_schemeAt) (maxL := 2) (ret := (some (.object "BuildingJury$Scheme"))) (by decide) rfl ?_
  intro p e s m args below meth c s₁ B hml hv
  obtain ⟨rfl, hG, hZ⟩ := hv
  have hx := B.exec
  have hb := B.bytes
  have hr := B.returns
  have hts : ∀ w ∈ wsL_law, w.before ([.ref (ad 11 0 0), .int x1] : List Value).toArray s = true := fun w h => (atoms_spec B.pre) w (List.mem_cons_of_mem _ h)
  have hown : s.vm.findClass RX11 = some m.cls := findClass_of_methodNamed B.named
  have hlocks := B.notSynchronized
  have S : zS p m c cX11_schemeAt 2 s ([.ref (ad 11 0 0), .int x1] : List Value).toArray RX11 := ⟨hx, hb, hml, hown, hts⟩
  have hS : va_S A s.heap s.heap [] := va_S.rf
  have hl := lv_entry ([.ref (ad 11 0 0), .int x1]) (n := 2) (Nat.le_of_ble_eq_true rfl)
  rw [lg_entry_eq]
  generalize (lg_sl ([.ref (ad 11 0 0), .int x1]) ++ List.replicate (2 - (lg_sl ([.ref (ad 11 0 0), .int x1])).length) Slot.unset).toArray = ls at hl ⊢
  have hl : lv_has ls 2 [(0, .ref (ad 11 0 0)), (1, .int x1)] := hl
  generalize hargs : ([.ref (ad 11 0 0), .int x1] : List Value).toArray = args at S hts ⊢
  clear hargs
  have hK0 : ∀ (H : Heap) (locs : List Loc) (ls : Array Slot), zG D aC A nl ad σ s H → va_S A s.heap H locs → lv_has ls 2 [(0, .ref (ad 11 0 0)), (1, .int x1)] → f_X11_schemeAt σ x1 = some r → zWk p l e ({ frames := 0, cells := 0, slots := 0, locals := 0 } : Room) s m args below meth c A (some (va_rf (Option.map (fun j => ad 7 j 0) r))) (fun t => zG D aC A nl ad σ t t.heap ∧ (∀ j, r = some j → zin nl 7 j)) H locs (F0 m 0 ls []) := by
    intro H locs ls hG hS hl hf
    unfold f_X11_schemeAt at hf
    refine lv_iload_n hx hb dX11_schemeAt_0 rfl (lv_at hl 1 rfl) ?_
    refine lv_if_lt (tgt := 30) hx hb dX11_schemeAt_1 (by decide) (fun c1 => ?_) (fun c1 => ?_)
    · have hf := zif_p c1 hf
      refine lv_null hx hb dX11_schemeAt_30 ?_
      have hq := (Option.some.inj hf)
      subst hq
      exact z_aret S hG hS hlocks (by exact (fun _ h => by cases h)) hr (Or.inl ⟨_, rfl⟩) (Or.inl rfl) dX11_schemeAt_31
    · have hf := zif_n c1 hf
      refine lv_iload_n hx hb dX11_schemeAt_4 rfl (lv_at hl 1 rfl) ?_
      refine lv_aload_n hx hb dX11_schemeAt_5 rfl (lv_at hl 0 rfl) ?_
      refine z_get (c0 := 11) (i0 := 0) (k0 := 12) (T := TX11) (v := .int (zI σ 11 0 12)) S hG (hZ.2.1 (11, 0) (by decide)) rfl inlX11 (by decide) rfl zw_50 rfl dX11_schemeAt_6 ?_
      refine lv_icmp_ge (tgt := 30) hx hb dX11_schemeAt_9 (by decide) (fun c2 => ?_) (fun c2 => ?_)
      · have hf := zif_p c2 hf
        refine lv_null hx hb dX11_schemeAt_30 ?_
        have hq := (Option.some.inj hf)
        subst hq
        exact z_aret S hG hS hlocks (by exact (fun _ h => by cases h)) hr (Or.inl ⟨_, rfl⟩) (Or.inl rfl) dX11_schemeAt_31
      · have hf := zif_n c2 hf
        refine lv_iload_n hx hb dX11_schemeAt_12 rfl (lv_at hl 1 rfl) ?_
        refine lv_aload_n hx hb dX11_schemeAt_13 rfl (lv_at hl 0 rfl) ?_
        refine z_get (c0 := 11) (i0 := 0) (k0 := 7) (T := TX11) (v := .ref (ad 11 0 8)) S hG (hZ.2.1 (11, 0) (by decide)) rfl inlX11 (by decide) rfl zw_42 rfl dX11_schemeAt_14 ?_
        refine z_alen (c0 := 11) (i0 := 0) (k0 := 7) (n := 8) (v := 10) S hG (hZ.2.1 (11, 0) (by decide)) (by decide) rfl (by decide) (by rfl) dX11_schemeAt_17 ?_
        refine lv_icmp_ge (tgt := 30) hx hb dX11_schemeAt_18 (by decide) (fun c3 => ?_) (fun c3 => ?_)
        · have hf := zif_p c3 hf
          refine lv_null hx hb dX11_schemeAt_30 ?_
          have hq := (Option.some.inj hf)
          subst hq
          exact z_aret S hG hS hlocks (by exact (fun _ h => by cases h)) hr (Or.inl ⟨_, rfl⟩) (Or.inl rfl) dX11_schemeAt_31
        · have hf := zif_n c3 hf
          refine lv_aload_n hx hb dX11_schemeAt_21 rfl (lv_at hl 0 rfl) ?_
          refine z_get (c0 := 11) (i0 := 0) (k0 := 7) (T := TX11) (v := .ref (ad 11 0 8)) S hG (hZ.2.1 (11, 0) (by decide)) rfl inlX11 (by decide) rfl zw_42 rfl dX11_schemeAt_22 ?_
          refine lv_iload_n hx hb dX11_schemeAt_25 rfl (lv_at hl 1 rfl) ?_
          obtain ⟨i4, hi4, hf⟩ := zbi hf
          refine z_aald8 (c0 := 11) (i0 := 0) (k0 := 7) S hG (hZ.2.1 (11, 0) (by decide)) (by decide) rfl hi4 dX11_schemeAt_26 (fun hz5 => ?_)
          rcases hE7 : (zO σ 11 0 7 i4) with _ | j6
          · have hf := znu_n0 hE7 hf
            refine W.eq (g2 := F0 m 27 ls [.null]) (by first | rfl | (rw [hE7]; rfl)) ?_
            refine lv_goto (tgt := 31) hx hb dX11_schemeAt_27 (by decide) ?_
            have hq := (Option.some.inj hf)
            subst hq
            exact z_aret S hG hS hlocks (by exact (fun _ h => by cases h)) hr (Or.inl ⟨_, rfl⟩) (Or.inl rfl) dX11_schemeAt_31
          · have hf := znu_s0 hE7 hf
            refine W.eq (g2 := F0 m 27 ls [.ref (ad 7 j6 0)]) (by first | rfl | (rw [hE7]; rfl)) ?_
            refine lv_goto (tgt := 31) hx hb dX11_schemeAt_27 (by decide) ?_
            have hq := (Option.some.inj hf)
            subst hq
            exact z_aret S hG hS hlocks (by exact (fun _ h => by cases h; exact (hz5 j6 hE7))) hr (Or.inl ⟨_, rfl⟩) (Or.inr ⟨_, rfl⟩) dX11_schemeAt_31
  exact hK0 _ _ ls hG hS hl hf
set_option maxRecDepth 100000 in
set_option maxHeartbeats 4000000 in
theorem c_X11_draw (l : Launch) (D : va_G) (aC : Nat → ClassId) (zs : Nat × Nat) (A : Nat → Prop) (nl : zNL) (ad : Nat → Nat → Nat → Nat) (σ : zM) (x1 : Int32) (x2 : Int32) (x3 : Int32) (x4 : Int32) (x5 : Int32) (x6 : Int32) (x7 : Int32) (r : Int32) (σ' : zM)  (hf : f_X11_draw σ x1 x2 x3 x4 x5 x6 x7 = some (r, σ')) : Met l yX11_draw (Cond.code yX11_draw cX11_draw 11 (some .boolean) :: wsL_law) ({ frames := 2, cells := 0, slots := 0, locals := 47 } : Room) (zP D aC zs zfX A nl ad σ [.ref (ad 11 0 0), .int x1, .int x2, .int x3, .int x4, .int x5, .int x6, .int x7]) (zQ (some (.int r)) (fun t => zG D aC A nl ad σ' t t.heap ∧ (r = 0 ∨ r = 1)) A) 0 0 A := by
  refine Met.ofW (cc := cX11_draw) (maxL := 11) (ret := (some .boolean)) (by decide) rfl ?_
  intro p e s m args below meth c s₁ B hml hv
  obtain ⟨rfl, hG, hZ⟩ := hv
  have hx := B.exec
  have hb := B.bytes
  have hr := B.returns
  have hts : ∀ w ∈ wsL_law, w.before ([.ref (ad 11 0 0), .int x1, .int x2, .int x3, .int x4, .int x5, .int x6, .int x7] : List Value).toArray s = true := fun w h => (atoms_spec B.pre) w (List.mem_cons_of_mem _ h)
  have hown : s.vm.findClass RX11 = some m.cls := findClass_of_methodNamed B.named
  have hlocks := B.notSynchronized
  have S : zS p m c cX11_draw 11 s ([.ref (ad 11 0 0), .int x1, .int x2, .int x3, .int x4, .int x5, .int x6, .int x7] : List Value).toArray RX11 := ⟨hx, hb, hml, hown, hts⟩
  have hS : va_S A s.heap s.heap [] := va_S.rf
  have hl := lv_entry ([.ref (ad 11 0 0), .int x1, .int x2, .int x3, .int x4, .int x5, .int x6, .int x7]) (n := 11) (Nat.le_of_ble_eq_true rfl)
  rw [lg_entry_eq]
  generalize (lg_sl ([.ref (ad 11 0 0), .int x1, .int x2, .int x3, .int x4, .int x5, .int x6, .int x7]) ++ List.replicate (11 - (lg_sl ([.ref (ad 11 0 0), .int x1, .int x2, .int x3, .int x4, .int x5, .int x6, .int x7])).length) Slot.unset).toArray = ls at hl ⊢
  have hl : lv_has ls 11 [(0, .ref (ad 11 0 0)), (1, .int x1), (2, .int x2), (3, .int x3), (4, .int x4), (5, .int x5), (6, .int x6), (7, .int x7)] := hl
  generalize hargs : ([.ref (ad 11 0 0), .int x1, .int x2, .int x3, .int x4, .int x5, .int x6, .int x7] : List Value).toArray = args at S hts ⊢
  clear hargs
  have KJ114 : ∀ (σb114 : zM) (H : Heap) (locs : List Loc) (ls : Array Slot), zG D aC A nl ad σb114 s H → va_S A s.heap H locs → lv_has ls 11 [(0, .ref (ad 11 0 0)), (1, .int x1), (2, .int x2), (3, .int x3), (4, .int x4), (5, .int x5), (6, .int x6), (7, .int x7)] → (f_X11_draw_B114 σb114 x1 x2 x3 x4 x5 x6 x7) = some (r, σ') → zWk p l e ({ frames := 2, cells := 0, slots := 0, locals := 47 } : Room) s m args below meth c A (some (.int r)) (fun t => zG D aC A nl ad σ' t t.heap ∧ (r = 0 ∨ r = 1)) H locs (F0 m 114 ls []) := by
    intro   σb114 H locs ls hG hS hl hf
    unfold f_X11_draw_B114 at hf
    refine lv_aload_n hx hb dX11_draw_114 rfl (lv_at hl 0 rfl) ?_
    refine z_get (c0 := 11) (i0 := 0) (k0 := 4) (T := TX11) (v := .ref (ad 8 0 0)) S hG (hZ.2.1 (11, 0) (by decide)) rfl inlX11 (by decide) rfl zw_32 rfl dX11_draw_115 ?_
    obtain ⟨σ16, eσ16, hf⟩ := zlt_s hf
    refine z_callV (n := 0) (rest := []) (st1 := []) (c0 := 8) (i0 := 0) (hZ.2.1 (8, 0) (by decide)) (by rfl) S hG hS hZ (fun _ _ h => h) (c_X8_forgetMend l D aC zs A nl ad σb114 σ16 eσ16.symm) zw_270 zw_271 zw_272 zw_31 zw_273 (by decide +kernel) ⟨rfl, rfl⟩ ⟨(Nat.le_of_ble_eq_true rfl), (Nat.le_of_ble_eq_true rfl)⟩ hl.1 rfl (by rfl) (by rfl) (Nat.le_of_ble_eq_true rfl) dX11_draw_118 ⟨Nat.zero_le _, Nat.zero_le _⟩ (fun H locs hz17 hG hS => ?_)
    refine lv_iconst (v := 1) hx hb dX11_draw_121 (by decide) ?_
    obtain ⟨hq1, hq2⟩ := Prod.mk.inj (Option.some.inj hf)
    subst hq1
    subst hq2
    exact z_zret S hG hS hlocks (Or.inr rfl) hr dX11_draw_122
  have hK0 : ∀ (H : Heap) (locs : List Loc) (ls : Array Slot), zG D aC A nl ad σ s H → va_S A s.heap H locs → lv_has ls 11 [(0, .ref (ad 11 0 0)), (1, .int x1), (2, .int x2), (3, .int x3), (4, .int x4), (5, .int x5), (6, .int x6), (7, .int x7)] → f_X11_draw σ x1 x2 x3 x4 x5 x6 x7 = some (r, σ') → zWk p l e ({ frames := 2, cells := 0, slots := 0, locals := 47 } : Room) s m args below meth c A (some (.int r)) (fun t => zG D aC A nl ad σ' t t.heap ∧ (r = 0 ∨ r = 1)) H locs (F0 m 0 ls []) := by
    intro H locs ls hG hS hl hf
    unfold f_X11_draw at hf
    refine lv_aload_n hx hb dX11_draw_0 rfl (lv_at hl 0 rfl) ?_
    refine lv_iload_n hx hb dX11_draw_1 rfl (lv_at hl 1 rfl) ?_
    obtain ⟨r1, er1, hf⟩ := zbi hf
    refine z_callV (n := 1) (rest := []) (st1 := [va_rf (Option.map (fun j => ad 7 j 0) r1)]) (c0 := 11) (i0 := 0) (hZ.2.1 (11, 0) (by decide)) (by rfl) S hG hS hZ (fun _ _ h => h) (c_X11_schemeAt l D aC zs A nl ad σ x1 r1 er1) zw_806 zw_807 zw_808 zw_2 zw_809 (by decide +kernel) ⟨rfl, rfl⟩ ⟨(Nat.le_of_ble_eq_true rfl), (Nat.le_of_ble_eq_true rfl)⟩ hl.1 rfl (by rfl) (by rfl) (Nat.le_of_ble_eq_true rfl) dX11_draw_2 ⟨Nat.zero_le _, Nat.zero_le _⟩ (fun H locs hz2 hG hS => ?_)
    rcases hE4 : r1 with _ | j3
    · have hf := znu_n0 hE4 hf
      refine W.eq (g2 := F0 m 5 ls [.null]) (by first | rfl | (rw [hE4]; rfl)) ?_
      refine lv_astoreN (lv' := [(8, .null), (0, .ref (ad 11 0 0)), (1, .int x1), (2, .int x2), (3, .int x3), (4, .int x4), (5, .int x5), (6, .int x6), (7, .int x7)]) hx hb dX11_draw_5 hl (by decide) rfl (fun ls hl => ?_)
      refine lv_aloadN hx hb dX11_draw_7 (lv_at hl 0 rfl) ?_
      refine lv_ifnullN (tgt := 28) hx hb dX11_draw_9 (by decide) ?_
      refine lv_iconst (v := 0) hx hb dX11_draw_28 (by decide) ?_
      obtain ⟨hq1, hq2⟩ := Prod.mk.inj (Option.some.inj hf)
      subst hq1
      subst hq2
      exact z_zret S hG hS hlocks (Or.inl rfl) hr dX11_draw_29
    · have hf := znu_s0 hE4 hf
      refine W.eq (g2 := F0 m 5 ls [.ref (ad 7 j3 0)]) (by first | rfl | (rw [hE4]; rfl)) ?_
      refine lv_astore (lv' := [(8, .ref (ad 7 j3 0)), (0, .ref (ad 11 0 0)), (1, .int x1), (2, .int x2), (3, .int x3), (4, .int x4), (5, .int x5), (6, .int x6), (7, .int x7)]) hx hb dX11_draw_5 hl (by decide) rfl (fun ls hl => ?_)
      refine lv_aload hx hb dX11_draw_7 (lv_at hl 0 rfl) ?_
      refine lv_ifnull hx hb dX11_draw_9 ?_
      refine lv_aload hx hb dX11_draw_12 (lv_at hl 0 rfl) ?_
      refine z_callV (n := 0) (rest := []) (st1 := [.int (f_X7_isHandedIn σ j3)]) (c0 := 7) (i0 := j3) (hz2 j3 hE4) (by rfl) S hG hS hZ (fun _ _ h => h) (c_X7_isHandedIn l D aC zs A nl ad σ j3 (f_X7_isHandedIn σ j3) (hz2 j3 hE4) rfl) zw_810 zw_811 zw_812 zw_783 zw_813 (by decide +kernel) ⟨rfl, rfl⟩ ⟨(Nat.le_of_ble_eq_true rfl), (Nat.le_of_ble_eq_true rfl)⟩ hl.1 rfl (by rfl) (by rfl) (Nat.le_of_ble_eq_true rfl) dX11_draw_14 ⟨Nat.zero_le _, Nat.zero_le _⟩ (fun H locs hz5 hG hS => ?_)
      refine lv_if_ne (tgt := 28) hx hb dX11_draw_17 (by decide) (fun c6 => ?_) (fun c6 => ?_)
      · have hf := zif_n c6 hf
        refine lv_iconst (v := 0) hx hb dX11_draw_28 (by decide) ?_
        obtain ⟨hq1, hq2⟩ := Prod.mk.inj (Option.some.inj hf)
        subst hq1
        subst hq2
        exact z_zret S hG hS hlocks (Or.inl rfl) hr dX11_draw_29
      · have hf := zif_p c6 hf
        refine lv_iload hx hb dX11_draw_20 (lv_at hl 8 rfl) ?_
        refine z_callS (n := 1) (rest := []) (st1 := [.int (f_X7_isThing x7)]) S hG hS hZ (fun _ _ h => h) (c_X7_isThing l D aC zs A nl ad σ x7 (f_X7_isThing x7) rfl) zw_814 zw_815 zw_783 zw_816 (by decide +kernel) ⟨rfl, rfl⟩ ⟨(Nat.le_of_ble_eq_true rfl), (Nat.le_of_ble_eq_true rfl)⟩ hl.1 rfl (by rfl) (by rfl) (Nat.le_of_ble_eq_true rfl) dX11_draw_22 ⟨Nat.zero_le _, Nat.zero_le _⟩ (fun H locs hz7 hG hS => ?_)
        refine lv_if_ne (tgt := 30) hx hb dX11_draw_25 (by decide) (fun c8 => ?_) (fun c8 => ?_)
        · have hf := zif_n c8 hf
          refine lv_iload_n hx hb dX11_draw_30 rfl (lv_at hl 3 rfl) ?_
          refine lv_iload_n hx hb dX11_draw_31 rfl (lv_at hl 4 rfl) ?_
          refine lv_iload hx hb dX11_draw_32 (lv_at hl 5 rfl) ?_
          refine z_callS (n := 3) (rest := []) (st1 := [.int (f_X7_isCell x2 x3 x4)]) S hG hS hZ (fun _ _ h => h) (c_X7_isCell l D aC zs A nl ad σ x2 x3 x4 (f_X7_isCell x2 x3 x4) rfl) zw_817 zw_818 zw_783 zw_819 (by decide +kernel) ⟨rfl, rfl⟩ ⟨(Nat.le_of_ble_eq_true rfl), (Nat.le_of_ble_eq_true rfl)⟩ hl.1 rfl (by rfl) (by rfl) (Nat.le_of_ble_eq_true rfl) dX11_draw_34 ⟨Nat.zero_le _, Nat.zero_le _⟩ (fun H locs hz9 hG hS => ?_)
          refine lv_if_eq (tgt := 64) hx hb dX11_draw_37 (by decide) (fun c10 => ?_) (fun c10 => ?_)
          · have hf := zif_p c10 hf
            refine lv_iconst (v := 0) hx hb dX11_draw_64 (by decide) ?_
            obtain ⟨hq1, hq2⟩ := Prod.mk.inj (Option.some.inj hf)
            subst hq1
            subst hq2
            exact z_zret S hG hS hlocks (Or.inl rfl) hr dX11_draw_65
          · have hf := zif_n c10 hf
            refine lv_iload_n hx hb dX11_draw_40 rfl (lv_at hl 3 rfl) ?_
            refine lv_iload hx hb dX11_draw_41 (lv_at hl 6 rfl) ?_
            refine lv_iload hx hb dX11_draw_43 (lv_at hl 7 rfl) ?_
            refine z_callS (n := 3) (rest := []) (st1 := [.int (f_X7_isCell x2 x5 x6)]) S hG hS hZ (fun _ _ h => h) (c_X7_isCell l D aC zs A nl ad σ x2 x5 x6 (f_X7_isCell x2 x5 x6) rfl) zw_817 zw_818 zw_783 zw_819 (by decide +kernel) ⟨rfl, rfl⟩ ⟨(Nat.le_of_ble_eq_true rfl), (Nat.le_of_ble_eq_true rfl)⟩ hl.1 rfl (by rfl) (by rfl) (Nat.le_of_ble_eq_true rfl) dX11_draw_45 ⟨Nat.zero_le _, Nat.zero_le _⟩ (fun H locs hz11 hG hS => ?_)
            refine lv_if_eq (tgt := 64) hx hb dX11_draw_48 (by decide) (fun c12 => ?_) (fun c12 => ?_)
            · have hf := zif_p c12 hf
              refine lv_iconst (v := 0) hx hb dX11_draw_64 (by decide) ?_
              obtain ⟨hq1, hq2⟩ := Prod.mk.inj (Option.some.inj hf)
              subst hq1
              subst hq2
              exact z_zret S hG hS hlocks (Or.inl rfl) hr dX11_draw_65
            · have hf := zif_n c12 hf
              refine lv_iload hx hb dX11_draw_51 (lv_at hl 6 rfl) ?_
              refine lv_iload_n hx hb dX11_draw_53 rfl (lv_at hl 4 rfl) ?_
              refine lv_icmp_lt (tgt := 64) hx hb dX11_draw_54 (by decide) (fun c13 => ?_) (fun c13 => ?_)
              · have hf := zif_p c13 hf
                refine lv_iconst (v := 0) hx hb dX11_draw_64 (by decide) ?_
                obtain ⟨hq1, hq2⟩ := Prod.mk.inj (Option.some.inj hf)
                subst hq1
                subst hq2
                exact z_zret S hG hS hlocks (Or.inl rfl) hr dX11_draw_65
              · have hf := zif_n c13 hf
                refine lv_iload hx hb dX11_draw_57 (lv_at hl 7 rfl) ?_
                refine lv_iload hx hb dX11_draw_59 (lv_at hl 5 rfl) ?_
                refine lv_icmp_ge (tgt := 66) hx hb dX11_draw_61 (by decide) (fun c14 => ?_) (fun c14 => ?_)
                · have hf := zif_p c14 hf
                  refine lv_iload hx hb dX11_draw_66 (lv_at hl 5 rfl) ?_
                  refine lv_istore (lv' := [(9, .int x4), (8, .ref (ad 7 j3 0)), (0, .ref (ad 11 0 0)), (1, .int x1), (2, .int x2), (3, .int x3), (4, .int x4), (5, .int x5), (6, .int x6), (7, .int x7)]) hx hb dX11_draw_68 hl (by decide) rfl (fun ls hl => ?_)
                  obtain ⟨t70, hw70, hfo70⟩ := zbi hf
                  have KL70 : ∀ (n : Nat) (y9l70 : Int32) (σl70 : zM) (H : Heap) (locs : List Loc) (ls : Array Slot), zG D aC A nl ad σl70 s H → va_S A s.heap H locs → lv_has ls 11 [(0, .ref (ad 11 0 0)), (1, .int x1), (2, .int x2), (3, .int x3), (4, .int x4), (5, .int x5), (6, .int x6), (7, .int x7), (8, .ref (ad 7 j3 0)), (9, .int y9l70)] → zwh (fun (q : (Int32 × zM)) => f_X11_draw_L70 x1 x2 x3 x4 x5 x6 x7 j3 q.1 q.2) n (y9l70, σl70) = some t70 → zWk p l e ({ frames := 2, cells := 0, slots := 0, locals := 47 } : Room) s m args below meth c A (some (.int r)) (fun t => zG D aC A nl ad σ' t t.heap ∧ (r = 0 ∨ r = 1)) H locs (F0 m 70 ls []) := by
                    intro n
                    induction n with
                    | zero =>
                      intro y9l70 σl70 H locs ls hG hS hl hw
                      exact (zwh_0 hw).elim
                    | succ n ih70 =>
                      intro y9l70 σl70 H locs ls hG hS hl hw
                      obtain ⟨rr70, hf, hk70⟩ := zwh_u hw
                      have hf : f_X11_draw_L70 x1 x2 x3 x4 x5 x6 x7 j3 y9l70 σl70 = some rr70 := hf
                      unfold f_X11_draw_L70 at hf
                      have KJ108_70 : ∀ (y9b108 : Int32)  (σb108_70 : zM) (H : Heap) (locs : List Loc) (ls : Array Slot), zG D aC A nl ad σb108_70 s H → va_S A s.heap H locs → lv_has ls 11 [(0, .ref (ad 11 0 0)), (1, .int x1), (2, .int x2), (3, .int x3), (4, .int x4), (5, .int x5), (6, .int x6), (7, .int x7), (8, .ref (ad 7 j3 0)), (9, .int y9b108)] → (f_X11_draw_B108_70 σb108_70 x1 x2 x3 x4 x5 x6 x7 j3 y9b108) = some rr70 → zWk p l e ({ frames := 2, cells := 0, slots := 0, locals := 47 } : Room) s m args below meth c A (some (.int r)) (fun t => zG D aC A nl ad σ' t t.heap ∧ (r = 0 ∨ r = 1)) H locs (F0 m 108 ls []) := by
                        intro y9b108  σb108_70 H locs ls hG hS hl hf
                        unfold f_X11_draw_B108_70 at hf
                        refine lv_iinc (v := (y9b108 + 1)) (lv' := [(9, .int (y9b108 + 1)), (0, .ref (ad 11 0 0)), (1, .int x1), (2, .int x2), (3, .int x3), (4, .int x4), (5, .int x5), (6, .int x6), (7, .int x7), (8, .ref (ad 7 j3 0))]) hx hb dX11_draw_108 hl (k := 9) rfl rfl (by decide) rfl (fun ls hl => ?_)
                        refine lv_goto (tgt := 70) hx hb dX11_draw_111 (by decide) ?_
                        cases hf
                        exact ih70 (y9b108 + 1) σb108_70 H locs ls hG hS (lv_sub hl [1, 2, 3, 4, 5, 6, 7, 8, 9, 0] rfl) hk70
                      refine lv_iload hx hb dX11_draw_70 (lv_at hl 9 rfl) ?_
                      refine lv_iload hx hb dX11_draw_72 (lv_at hl 6 rfl) ?_
                      refine lv_icmp_gt (tgt := 114) hx hb dX11_draw_74 (by decide) (fun c26 => ?_) (fun c26 => ?_)
                      · have hf := zif_p c26 hf
                        cases hf
                        have hk70 : (σl70 : zM) = t70 := hk70
                        have hf := hfo70
                        rw [← hk70] at hf
                        have hf : (f_X11_draw_B114 σl70 x1 x2 x3 x4 x5 x6 x7) = some (r, σ') := hf
                        exact KJ114 σl70 H locs ls hG hS (lv_sub hl [0, 1, 2, 3, 4, 5, 6, 7] rfl) hf
                      · have hf := zif_n c26 hf
                        refine lv_iload_n hx hb dX11_draw_77 rfl (lv_at hl 3 rfl) ?_
                        refine lv_istore (lv' := [(10, .int x3), (0, .ref (ad 11 0 0)), (1, .int x1), (2, .int x2), (3, .int x3), (4, .int x4), (5, .int x5), (6, .int x6), (7, .int x7), (8, .ref (ad 7 j3 0)), (9, .int y9l70)]) hx hb dX11_draw_78 hl (by decide) rfl (fun ls hl => ?_)
                        obtain ⟨t80, hw80, hfo80⟩ := zbi hf
                        have KL80 : ∀ (n : Nat) (y10l80 : Int32) (σl80 : zM) (H : Heap) (locs : List Loc) (ls : Array Slot), zG D aC A nl ad σl80 s H → va_S A s.heap H locs → lv_has ls 11 [(0, .ref (ad 11 0 0)), (1, .int x1), (2, .int x2), (3, .int x3), (4, .int x4), (5, .int x5), (6, .int x6), (7, .int x7), (8, .ref (ad 7 j3 0)), (9, .int y9l70), (10, .int y10l80)] → zwh (fun (q : (Int32 × zM)) => f_X11_draw_L80 x1 x2 x3 x4 x5 x6 x7 j3 y9l70 q.1 q.2) n (y10l80, σl80) = some t80 → zWk p l e ({ frames := 2, cells := 0, slots := 0, locals := 47 } : Room) s m args below meth c A (some (.int r)) (fun t => zG D aC A nl ad σ' t t.heap ∧ (r = 0 ∨ r = 1)) H locs (F0 m 80 ls []) := by
                          intro n
                          induction n with
                          | zero =>
                            intro y10l80 σl80 H locs ls hG hS hl hw
                            exact (zwh_0 hw).elim
                          | succ n ih80 =>
                            intro y10l80 σl80 H locs ls hG hS hl hw
                            obtain ⟨rr80, hf, hk80⟩ := zwh_u hw
                            have hf : f_X11_draw_L80 x1 x2 x3 x4 x5 x6 x7 j3 y9l70 y10l80 σl80 = some rr80 := hf
                            unfold f_X11_draw_L80 at hf
                            refine lv_iload hx hb dX11_draw_80 (lv_at hl 10 rfl) ?_
                            refine lv_iload hx hb dX11_draw_82 (lv_at hl 5 rfl) ?_
                            refine lv_icmp_gt (tgt := 108) hx hb dX11_draw_84 (by decide) (fun c31 => ?_) (fun c31 => ?_)
                            · have hf := zif_p c31 hf
                              cases hf
                              have hk80 : (σl80 : zM) = t80 := hk80
                              have hf := hfo80
                              rw [← hk80] at hf
                              have hf : (f_X11_draw_B108_70 σl80 x1 x2 x3 x4 x5 x6 x7 j3 y9l70) = some rr70 := hf
                              exact KJ108_70 y9l70 σl80 H locs ls hG hS (lv_sub hl [0, 1, 2, 3, 4, 5, 6, 7, 8, 9] rfl) hf
                            · have hf := zif_n c31 hf
                              refine lv_aload hx hb dX11_draw_87 (lv_at hl 8 rfl) ?_
                              refine lv_iload_n hx hb dX11_draw_89 rfl (lv_at hl 2 rfl) ?_
                              refine lv_iload hx hb dX11_draw_90 (lv_at hl 10 rfl) ?_
                              refine lv_iload hx hb dX11_draw_92 (lv_at hl 9 rfl) ?_
                              refine z_callS (n := 3) (rest := [.ref (ad 7 j3 0)]) (st1 := [.int (f_X7_placeOf x2 y10l80 y9l70), .ref (ad 7 j3 0)]) S hG hS hZ (fun _ _ h => h) (c_X7_placeOf l D aC zs A nl ad σl80 x2 y10l80 y9l70 (f_X7_placeOf x2 y10l80 y9l70) rfl) zw_820 zw_821 zw_783 zw_822 (by decide +kernel) ⟨rfl, rfl⟩ ⟨(Nat.le_of_ble_eq_true rfl), (Nat.le_of_ble_eq_true rfl)⟩ hl.1 rfl (by rfl) (by rfl) (Nat.le_of_ble_eq_true rfl) dX11_draw_94 ⟨Nat.zero_le _, Nat.zero_le _⟩ (fun H locs hz32 hG hS => ?_)
                              refine lv_iload hx hb dX11_draw_97 (lv_at hl 7 rfl) ?_
                              obtain ⟨σ33, eσ33, hf⟩ := zbi hf
                              refine z_callV (n := 2) (rest := []) (st1 := []) (c0 := 7) (i0 := j3) (hz2 j3 hE4) (by rfl) S hG hS hZ (fun _ _ h => h) (c_X7_put l D aC zs A nl ad σl80 j3 (f_X7_placeOf x2 y10l80 y9l70) x7 σ33 (hz2 j3 hE4) eσ33) zw_823 zw_824 zw_825 zw_783 zw_826 (by decide +kernel) ⟨rfl, rfl⟩ ⟨(Nat.le_of_ble_eq_true rfl), (Nat.le_of_ble_eq_true rfl)⟩ hl.1 rfl (by rfl) (by rfl) (Nat.le_of_ble_eq_true rfl) dX11_draw_99 ⟨Nat.zero_le _, Nat.zero_le _⟩ (fun H locs hz34 hG hS => ?_)
                              refine lv_iinc (v := (y10l80 + 1)) (lv' := [(10, .int (y10l80 + 1)), (0, .ref (ad 11 0 0)), (1, .int x1), (2, .int x2), (3, .int x3), (4, .int x4), (5, .int x5), (6, .int x6), (7, .int x7), (8, .ref (ad 7 j3 0)), (9, .int y9l70)]) hx hb dX11_draw_102 hl (k := 10) rfl rfl (by decide) rfl (fun ls hl => ?_)
                              refine lv_goto (tgt := 80) hx hb dX11_draw_105 (by decide) ?_
                              cases hf
                              exact ih80 (y10l80 + 1) σ33 H locs ls hG hS (lv_sub hl [1, 2, 3, 4, 5, 6, 7, 8, 9, 10, 0] rfl) hk80
                        exact KL80 zFu x3 σl70 H locs ls hG hS (lv_sub hl [1, 2, 3, 4, 5, 6, 7, 8, 9, 10, 0] rfl) hw80
                  exact KL70 zFu x4 σ H locs ls hG hS (lv_sub hl [2, 3, 4, 5, 6, 7, 8, 9, 1, 0] rfl) hw70
                · have hf := zif_n c14 hf
                  refine lv_iconst (v := 0) hx hb dX11_draw_64 (by decide) ?_
                  obtain ⟨hq1, hq2⟩ := Prod.mk.inj (Option.some.inj hf)
                  subst hq1
                  subst hq2
                  exact z_zret S hG hS hlocks (Or.inl rfl) hr dX11_draw_65
        · have hf := zif_p c8 hf
          refine lv_iconst (v := 0) hx hb dX11_draw_28 (by decide) ?_
          obtain ⟨hq1, hq2⟩ := Prod.mk.inj (Option.some.inj hf)
          subst hq1
          subst hq2
          exact z_zret S hG hS hlocks (Or.inl rfl) hr dX11_draw_29
  exact hK0 _ _ ls hG hS hl hf
set_option maxRecDepth 100000 in
set_option maxHeartbeats 4000000 in
theorem c_X11_cell (l : Launch) (D : va_G) (aC : Nat → ClassId) (zs : Nat × Nat) (A : Nat → Prop) (nl : zNL) (ad : Nat → Nat → Nat → Nat) (σ : zM) (x1 : Int32) (x2 : Int32) (x3 : Int32) (x4 : Int32) (r : Int32)  (hf : f_X11_cell σ x1 x2 x3 x4 = some r) : Met l yX11_cell (Cond.code yX11_cell cX11_cell 6 (some .int) :: wsL_law) ({ frames := 1, cells := 0, slots := 0, locals := 22 } : Room) (zP D aC zs zfX A nl ad σ [.ref (ad 11 0 0), .int x1, .int x2, .int x3, .int x4]) (zQ (some (.int r)) (fun t => zG D aC A nl ad σ t t.heap ∧ True) A) 0 0 A := by
  refine Met.ofW (cc := cX11_cell) (maxL := 6) (ret := (some .int)) (by decide) rfl ?_
  intro p e s m args below meth c s₁ B hml hv
  obtain ⟨rfl, hG, hZ⟩ := hv
  have hx := B.exec
  have hb := B.bytes
  have hr := B.returns
  have hts : ∀ w ∈ wsL_law, w.before ([.ref (ad 11 0 0), .int x1, .int x2, .int x3, .int x4] : List Value).toArray s = true := fun w h => (atoms_spec B.pre) w (List.mem_cons_of_mem _ h)
  have hown : s.vm.findClass RX11 = some m.cls := findClass_of_methodNamed B.named
  have hlocks := B.notSynchronized
  have S : zS p m c cX11_cell 6 s ([.ref (ad 11 0 0), .int x1, .int x2, .int x3, .int x4] : List Value).toArray RX11 := ⟨hx, hb, hml, hown, hts⟩
  have hS : va_S A s.heap s.heap [] := va_S.rf
  have hl := lv_entry ([.ref (ad 11 0 0), .int x1, .int x2, .int x3, .int x4]) (n := 6) (Nat.le_of_ble_eq_true rfl)
  rw [lg_entry_eq]
  generalize (lg_sl ([.ref (ad 11 0 0), .int x1, .int x2, .int x3, .int x4]) ++ List.replicate (6 - (lg_sl ([.ref (ad 11 0 0), .int x1, .int x2, .int x3, .int x4])).length) Slot.unset).toArray = ls at hl ⊢
  have hl : lv_has ls 6 [(0, .ref (ad 11 0 0)), (1, .int x1), (2, .int x2), (3, .int x3), (4, .int x4)] := hl
  generalize hargs : ([.ref (ad 11 0 0), .int x1, .int x2, .int x3, .int x4] : List Value).toArray = args at S hts ⊢
  clear hargs
  have hK0 : ∀ (H : Heap) (locs : List Loc) (ls : Array Slot), zG D aC A nl ad σ s H → va_S A s.heap H locs → lv_has ls 6 [(0, .ref (ad 11 0 0)), (1, .int x1), (2, .int x2), (3, .int x3), (4, .int x4)] → f_X11_cell σ x1 x2 x3 x4 = some r → zWk p l e ({ frames := 1, cells := 0, slots := 0, locals := 22 } : Room) s m args below meth c A (some (.int r)) (fun t => zG D aC A nl ad σ t t.heap ∧ True) H locs (F0 m 0 ls []) := by
    intro H locs ls hG hS hl hf
    unfold f_X11_cell at hf
    refine lv_aload_n hx hb dX11_cell_0 rfl (lv_at hl 0 rfl) ?_
    refine lv_iload_n hx hb dX11_cell_1 rfl (lv_at hl 1 rfl) ?_
    obtain ⟨r1, er1, hf⟩ := zbi hf
    refine z_callV (n := 1) (rest := []) (st1 := [va_rf (Option.map (fun j => ad 7 j 0) r1)]) (c0 := 11) (i0 := 0) (hZ.2.1 (11, 0) (by decide)) (by rfl) S hG hS hZ (fun _ _ h => h) (c_X11_schemeAt l D aC zs A nl ad σ x1 r1 er1) zw_806 zw_807 zw_808 zw_2 zw_809 (by decide +kernel) ⟨rfl, rfl⟩ ⟨(Nat.le_of_ble_eq_true rfl), (Nat.le_of_ble_eq_true rfl)⟩ hl.1 rfl (by rfl) (by rfl) (Nat.le_of_ble_eq_true rfl) dX11_cell_2 ⟨Nat.zero_le _, Nat.zero_le _⟩ (fun H locs hz2 hG hS => ?_)
    rcases hE4 : r1 with _ | j3
    · have hf := znu_n0 hE4 hf
      refine W.eq (g2 := F0 m 5 ls [.null]) (by first | rfl | (rw [hE4]; rfl)) ?_
      refine lv_astoreN (lv' := [(5, .null), (0, .ref (ad 11 0 0)), (1, .int x1), (2, .int x2), (3, .int x3), (4, .int x4)]) hx hb dX11_cell_5 hl (by decide) rfl (fun ls hl => ?_)
      refine lv_aloadN hx hb dX11_cell_7 (lv_at hl 0 rfl) ?_
      refine lv_ifnullN (tgt := 22) hx hb dX11_cell_9 (by decide) ?_
      refine lv_iconst (v := (-1)) hx hb dX11_cell_22 (by decide) ?_
      have hq := (Option.some.inj hf)
      subst hq
      exact z_iret S hG hS hlocks trivial hr dX11_cell_23
    · have hf := znu_s0 hE4 hf
      refine W.eq (g2 := F0 m 5 ls [.ref (ad 7 j3 0)]) (by first | rfl | (rw [hE4]; rfl)) ?_
      refine lv_astore (lv' := [(5, .ref (ad 7 j3 0)), (0, .ref (ad 11 0 0)), (1, .int x1), (2, .int x2), (3, .int x3), (4, .int x4)]) hx hb dX11_cell_5 hl (by decide) rfl (fun ls hl => ?_)
      refine lv_aload hx hb dX11_cell_7 (lv_at hl 0 rfl) ?_
      refine lv_ifnull hx hb dX11_cell_9 ?_
      refine lv_iload_n hx hb dX11_cell_12 rfl (lv_at hl 3 rfl) ?_
      refine lv_iload_n hx hb dX11_cell_13 rfl (lv_at hl 4 rfl) ?_
      refine lv_iload hx hb dX11_cell_14 (lv_at hl 5 rfl) ?_
      refine z_callS (n := 3) (rest := []) (st1 := [.int (f_X7_isCell x2 x3 x4)]) S hG hS hZ (fun _ _ h => h) (c_X7_isCell l D aC zs A nl ad σ x2 x3 x4 (f_X7_isCell x2 x3 x4) rfl) zw_817 zw_818 zw_783 zw_819 (by decide +kernel) ⟨rfl, rfl⟩ ⟨(Nat.le_of_ble_eq_true rfl), (Nat.le_of_ble_eq_true rfl)⟩ hl.1 rfl (by rfl) (by rfl) (Nat.le_of_ble_eq_true rfl) dX11_cell_16 ⟨Nat.zero_le _, Nat.zero_le _⟩ (fun H locs hz5 hG hS => ?_)
      refine lv_if_ne (tgt := 24) hx hb dX11_cell_19 (by decide) (fun c6 => ?_) (fun c6 => ?_)
      · have hf := zif_n c6 hf
        refine lv_aload hx hb dX11_cell_24 (lv_at hl 0 rfl) ?_
        refine lv_iload_n hx hb dX11_cell_26 rfl (lv_at hl 3 rfl) ?_
        refine lv_iload_n hx hb dX11_cell_27 rfl (lv_at hl 4 rfl) ?_
        refine lv_iload hx hb dX11_cell_28 (lv_at hl 5 rfl) ?_
        refine z_callS (n := 3) (rest := [.ref (ad 7 j3 0)]) (st1 := [.int (f_X7_placeOf x2 x3 x4), .ref (ad 7 j3 0)]) S hG hS hZ (fun _ _ h => h) (c_X7_placeOf l D aC zs A nl ad σ x2 x3 x4 (f_X7_placeOf x2 x3 x4) rfl) zw_820 zw_821 zw_783 zw_822 (by decide +kernel) ⟨rfl, rfl⟩ ⟨(Nat.le_of_ble_eq_true rfl), (Nat.le_of_ble_eq_true rfl)⟩ hl.1 rfl (by rfl) (by rfl) (Nat.le_of_ble_eq_true rfl) dX11_cell_30 ⟨Nat.zero_le _, Nat.zero_le _⟩ (fun H locs hz7 hG hS => ?_)
        obtain ⟨r8, er8, hf⟩ := zbi hf
        refine z_callV (n := 1) (rest := []) (st1 := [.int r8]) (c0 := 7) (i0 := j3) (hz2 j3 hE4) (by rfl) S hG hS hZ (fun _ _ h => h) (c_X7_thingAt l D aC zs A nl ad σ j3 (f_X7_placeOf x2 x3 x4) r8 (hz2 j3 hE4) er8) zw_851 zw_830 zw_831 zw_783 zw_832 (by decide +kernel) ⟨rfl, rfl⟩ ⟨(Nat.le_of_ble_eq_true rfl), (Nat.le_of_ble_eq_true rfl)⟩ hl.1 rfl (by rfl) (by rfl) (Nat.le_of_ble_eq_true rfl) dX11_cell_33 ⟨Nat.zero_le _, Nat.zero_le _⟩ (fun H locs hz9 hG hS => ?_)
        have hq := (Option.some.inj hf)
        subst hq
        exact z_iret S hG hS hlocks trivial hr dX11_cell_36
      · have hf := zif_p c6 hf
        refine lv_iconst (v := (-1)) hx hb dX11_cell_22 (by decide) ?_
        have hq := (Option.some.inj hf)
        subst hq
        exact z_iret S hG hS hlocks trivial hr dX11_cell_23
  exact hK0 _ _ ls hG hS hl hf
set_option maxRecDepth 100000 in
set_option maxHeartbeats 4000000 in
theorem c_X11_hand (l : Launch) (D : va_G) (aC : Nat → ClassId) (zs : Nat × Nat) (A : Nat → Prop) (nl : zNL) (ad : Nat → Nat → Nat → Nat) (σ : zM) (x1 : Int32) (r : Int32) (σ' : zM)  (hf : f_X11_hand σ x1 = some (r, σ')) : Met l yX11_hand (Cond.code yX11_hand cX11_hand 3 (some .boolean) :: wsL_law) ({ frames := 1, cells := 0, slots := 0, locals := 21 } : Room) (zP D aC zs zfX A nl ad σ [.ref (ad 11 0 0), .int x1]) (zQ (some (.int r)) (fun t => zG D aC A nl ad σ' t t.heap ∧ (r = 0 ∨ r = 1)) A) 0 0 A := by
  refine Met.ofW (cc := cX11_hand) (maxL := 3) (ret := (some .boolean)) (by decide) rfl ?_
  intro p e s m args below meth c s₁ B hml hv
  obtain ⟨rfl, hG, hZ⟩ := hv
  have hx := B.exec
  have hb := B.bytes
  have hr := B.returns
  have hts : ∀ w ∈ wsL_law, w.before ([.ref (ad 11 0 0), .int x1] : List Value).toArray s = true := fun w h => (atoms_spec B.pre) w (List.mem_cons_of_mem _ h)
  have hown : s.vm.findClass RX11 = some m.cls := findClass_of_methodNamed B.named
  have hlocks := B.notSynchronized
  have S : zS p m c cX11_hand 3 s ([.ref (ad 11 0 0), .int x1] : List Value).toArray RX11 := ⟨hx, hb, hml, hown, hts⟩
  have hS : va_S A s.heap s.heap [] := va_S.rf
  have hl := lv_entry ([.ref (ad 11 0 0), .int x1]) (n := 3) (Nat.le_of_ble_eq_true rfl)
  rw [lg_entry_eq]
  generalize (lg_sl ([.ref (ad 11 0 0), .int x1]) ++ List.replicate (3 - (lg_sl ([.ref (ad 11 0 0), .int x1])).length) Slot.unset).toArray = ls at hl ⊢
  have hl : lv_has ls 3 [(0, .ref (ad 11 0 0)), (1, .int x1)] := hl
  generalize hargs : ([.ref (ad 11 0 0), .int x1] : List Value).toArray = args at S hts ⊢
  clear hargs
  have hK0 : ∀ (H : Heap) (locs : List Loc) (ls : Array Slot), zG D aC A nl ad σ s H → va_S A s.heap H locs → lv_has ls 3 [(0, .ref (ad 11 0 0)), (1, .int x1)] → f_X11_hand σ x1 = some (r, σ') → zWk p l e ({ frames := 1, cells := 0, slots := 0, locals := 21 } : Room) s m args below meth c A (some (.int r)) (fun t => zG D aC A nl ad σ' t t.heap ∧ (r = 0 ∨ r = 1)) H locs (F0 m 0 ls []) := by
    intro H locs ls hG hS hl hf
    unfold f_X11_hand at hf
    refine lv_aload_n hx hb dX11_hand_0 rfl (lv_at hl 0 rfl) ?_
    refine lv_iload_n hx hb dX11_hand_1 rfl (lv_at hl 1 rfl) ?_
    obtain ⟨r1, er1, hf⟩ := zbi hf
    refine z_callV (n := 1) (rest := []) (st1 := [va_rf (Option.map (fun j => ad 7 j 0) r1)]) (c0 := 11) (i0 := 0) (hZ.2.1 (11, 0) (by decide)) (by rfl) S hG hS hZ (fun _ _ h => h) (c_X11_schemeAt l D aC zs A nl ad σ x1 r1 er1) zw_806 zw_807 zw_808 zw_2 zw_809 (by decide +kernel) ⟨rfl, rfl⟩ ⟨(Nat.le_of_ble_eq_true rfl), (Nat.le_of_ble_eq_true rfl)⟩ hl.1 rfl (by rfl) (by rfl) (Nat.le_of_ble_eq_true rfl) dX11_hand_2 ⟨Nat.zero_le _, Nat.zero_le _⟩ (fun H locs hz2 hG hS => ?_)
    rcases hE4 : r1 with _ | j3
    · have hf := znu_n0 hE4 hf
      refine W.eq (g2 := F0 m 5 ls [.null]) (by first | rfl | (rw [hE4]; rfl)) ?_
      refine lv_astore_nN (lv' := [(2, .null), (0, .ref (ad 11 0 0)), (1, .int x1)]) hx hb dX11_hand_5 rfl hl (by decide) rfl (fun ls hl => ?_)
      refine lv_aload_nN hx hb dX11_hand_6 rfl (lv_at hl 0 rfl) ?_
      refine lv_ifnullN (tgt := 17) hx hb dX11_hand_7 (by decide) ?_
      refine lv_iconst (v := 0) hx hb dX11_hand_17 (by decide) ?_
      obtain ⟨hq1, hq2⟩ := Prod.mk.inj (Option.some.inj hf)
      subst hq1
      subst hq2
      exact z_zret S hG hS hlocks (Or.inl rfl) hr dX11_hand_18
    · have hf := znu_s0 hE4 hf
      refine W.eq (g2 := F0 m 5 ls [.ref (ad 7 j3 0)]) (by first | rfl | (rw [hE4]; rfl)) ?_
      refine lv_astore_n (lv' := [(2, .ref (ad 7 j3 0)), (0, .ref (ad 11 0 0)), (1, .int x1)]) hx hb dX11_hand_5 rfl hl (by decide) rfl (fun ls hl => ?_)
      refine lv_aload_n hx hb dX11_hand_6 rfl (lv_at hl 0 rfl) ?_
      refine lv_ifnull hx hb dX11_hand_7 ?_
      refine lv_aload_n hx hb dX11_hand_10 rfl (lv_at hl 0 rfl) ?_
      refine z_callV (n := 0) (rest := []) (st1 := [.int (f_X7_isHandedIn σ j3)]) (c0 := 7) (i0 := j3) (hz2 j3 hE4) (by rfl) S hG hS hZ (fun _ _ h => h) (c_X7_isHandedIn l D aC zs A nl ad σ j3 (f_X7_isHandedIn σ j3) (hz2 j3 hE4) rfl) zw_810 zw_811 zw_812 zw_783 zw_813 (by decide +kernel) ⟨rfl, rfl⟩ ⟨(Nat.le_of_ble_eq_true rfl), (Nat.le_of_ble_eq_true rfl)⟩ hl.1 rfl (by rfl) (by rfl) (Nat.le_of_ble_eq_true rfl) dX11_hand_11 ⟨Nat.zero_le _, Nat.zero_le _⟩ (fun H locs hz5 hG hS => ?_)
      refine lv_if_eq (tgt := 19) hx hb dX11_hand_14 (by decide) (fun c6 => ?_) (fun c6 => ?_)
      · have hf := zif_p c6 hf
        refine lv_aload_n hx hb dX11_hand_19 rfl (lv_at hl 0 rfl) ?_
        refine lv_aload_n hx hb dX11_hand_20 rfl (lv_at hl 1 rfl) ?_
        refine z_get (c0 := 11) (i0 := 0) (k0 := 10) (T := TX11) (v := .int (zI σ 11 0 10)) S hG (hZ.2.1 (11, 0) (by decide)) rfl inlX11 (by decide) rfl zw_48 rfl dX11_hand_21 ?_
        refine z_putI (c0 := 7) (i0 := j3) (k0 := 1) (T := TX7) S hG hS tyX7 tyX7_ok nmX7 (hz2 j3 hE4) rfl inlX7 (by decide) rfl rfl zw_860 (by decide +kernel) rfl dX11_hand_24 (fun H locs hG hS => ?_)
        obtain ⟨σ7, eσ7, hf⟩ := zlt_s hf
        rw [← eσ7] at hG
        refine lv_aload_n hx hb dX11_hand_27 rfl (lv_at hl 1 rfl) ?_
        refine z_get (c0 := 11) (i0 := 0) (k0 := 4) (T := TX11) (v := .ref (ad 8 0 0)) S hG (hZ.2.1 (11, 0) (by decide)) rfl inlX11 (by decide) rfl zw_32 rfl dX11_hand_28 ?_
        obtain ⟨σ8, eσ8, hf⟩ := zlt_s hf
        refine z_callV (n := 0) (rest := []) (st1 := []) (c0 := 8) (i0 := 0) (hZ.2.1 (8, 0) (by decide)) (by rfl) S hG hS hZ (fun _ _ h => h) (c_X8_forgetMend l D aC zs A nl ad σ7 σ8 eσ8.symm) zw_270 zw_271 zw_272 zw_31 zw_273 (by decide +kernel) ⟨rfl, rfl⟩ ⟨(Nat.le_of_ble_eq_true rfl), (Nat.le_of_ble_eq_true rfl)⟩ hl.1 rfl (by rfl) (by rfl) (Nat.le_of_ble_eq_true rfl) dX11_hand_31 ⟨Nat.zero_le _, Nat.zero_le _⟩ (fun H locs hz9 hG hS => ?_)
        refine lv_iconst (v := 1) hx hb dX11_hand_34 (by decide) ?_
        obtain ⟨hq1, hq2⟩ := Prod.mk.inj (Option.some.inj hf)
        subst hq1
        subst hq2
        exact z_zret S hG hS hlocks (Or.inr rfl) hr dX11_hand_35
      · have hf := zif_n c6 hf
        refine lv_iconst (v := 0) hx hb dX11_hand_17 (by decide) ?_
        obtain ⟨hq1, hq2⟩ := Prod.mk.inj (Option.some.inj hf)
        subst hq1
        subst hq2
        exact z_zret S hG hS hlocks (Or.inl rfl) hr dX11_hand_18
  exact hK0 _ _ ls hG hS hl hf
set_option maxRecDepth 100000 in
set_option maxHeartbeats 4000000 in
theorem c_X11_isRoom (l : Launch) (D : va_G) (aC : Nat → ClassId) (zs : Nat × Nat) (A : Nat → Prop) (nl : zNL) (ad : Nat → Nat → Nat → Nat) (σ : zM) (x0 : Int32) (r : Int32)  (hf : f_X11_isRoom x0 = r) : Met l yX11_isRoom (Cond.code yX11_isRoom cX11_isRoom 1 (some .boolean) :: wsL_law) ({ frames := 0, cells := 0, slots := 0, locals := 0 } : Room) (zP D aC zs zfX A nl ad σ [.int x0]) (zQ (some (.int r)) (fun t => zG D aC A nl ad σ t t.heap ∧ (r = 0 ∨ r = 1)) A) 0 0 A := by
  refine Met.ofW (cc := cX11_isRoom) (maxL := 1) (ret := (some .boolean)) (by decide) rfl ?_
  intro p e s m args below meth c s₁ B hml hv
  obtain ⟨rfl, hG, hZ⟩ := hv
  have hx := B.exec
  have hb := B.bytes
  have hr := B.returns
  have hts : ∀ w ∈ wsL_law, w.before ([.int x0] : List Value).toArray s = true := fun w h => (atoms_spec B.pre) w (List.mem_cons_of_mem _ h)
  have hown : s.vm.findClass RX11 = some m.cls := findClass_of_methodNamed B.named
  have hlocks := B.notSynchronized
  have S : zS p m c cX11_isRoom 1 s ([.int x0] : List Value).toArray RX11 := ⟨hx, hb, hml, hown, hts⟩
  have hS : va_S A s.heap s.heap [] := va_S.rf
  have hl := lv_entry ([.int x0]) (n := 1) (Nat.le_of_ble_eq_true rfl)
  rw [lg_entry_eq]
  generalize (lg_sl ([.int x0]) ++ List.replicate (1 - (lg_sl ([.int x0])).length) Slot.unset).toArray = ls at hl ⊢
  have hl : lv_has ls 1 [(0, .int x0)] := hl
  generalize hargs : ([.int x0] : List Value).toArray = args at S hts ⊢
  clear hargs
  have hK0 : ∀ (H : Heap) (locs : List Loc) (ls : Array Slot), zG D aC A nl ad σ s H → va_S A s.heap H locs → lv_has ls 1 [(0, .int x0)] → f_X11_isRoom x0 = r → zWk p l e ({ frames := 0, cells := 0, slots := 0, locals := 0 } : Room) s m args below meth c A (some (.int r)) (fun t => zG D aC A nl ad σ t t.heap ∧ (r = 0 ∨ r = 1)) H locs (F0 m 0 ls []) := by
    intro H locs ls hG hS hl hf
    unfold f_X11_isRoom at hf
    refine lv_iload_n hx hb dX11_isRoom_0 rfl (lv_at hl 0 rfl) ?_
    refine lv_iconst (v := 1) hx hb dX11_isRoom_1 (by decide) ?_
    refine lv_icmp_lt (tgt := 15) hx hb dX11_isRoom_2 (by decide) (fun c1 => ?_) (fun c1 => ?_)
    · have hf := zif_p c1 hf
      refine lv_iconst (v := 0) hx hb dX11_isRoom_15 (by decide) ?_
      have hq := hf
      subst hq
      exact z_zret S hG hS hlocks (Or.inl rfl) hr dX11_isRoom_16
    · have hf := zif_n c1 hf
      refine lv_iload_n hx hb dX11_isRoom_5 rfl (lv_at hl 0 rfl) ?_
      refine lv_bipush (v := 12) hx hb dX11_isRoom_6 (by decide) ?_
      refine lv_icmp_gt (tgt := 15) hx hb dX11_isRoom_8 (by decide) (fun c2 => ?_) (fun c2 => ?_)
      · have hf := zif_p c2 hf
        refine lv_iconst (v := 0) hx hb dX11_isRoom_15 (by decide) ?_
        have hq := hf
        subst hq
        exact z_zret S hG hS hlocks (Or.inl rfl) hr dX11_isRoom_16
      · have hf := zif_n c2 hf
        refine lv_iconst (v := 1) hx hb dX11_isRoom_11 (by decide) ?_
        refine lv_goto (tgt := 16) hx hb dX11_isRoom_12 (by decide) ?_
        have hq := hf
        subst hq
        exact z_zret S hG hS hlocks (Or.inr rfl) hr dX11_isRoom_16
  exact hK0 _ _ ls hG hS hl hf
set_option maxRecDepth 100000 in
set_option maxHeartbeats 4000000 in
theorem c_X11_room (l : Launch) (D : va_G) (aC : Nat → ClassId) (zs : Nat × Nat) (A : Nat → Prop) (nl : zNL) (ad : Nat → Nat → Nat → Nat) (σ : zM) (x1 : Int32) (x2 : Int32) (x3 : Int32) (r : Int32)  (hf : f_X11_room σ x1 x2 x3 = some r) : Met l yX11_room (Cond.code yX11_room cX11_room 5 (some .int) :: wsL_law) ({ frames := 3, cells := 0, slots := 0, locals := 71 } : Room) (zP D aC zs zfX A nl ad σ [.ref (ad 11 0 0), .int x1, .int x2, .int x3]) (zQ (some (.int r)) (fun t => zG D aC A nl ad σ t t.heap ∧ True) A) 0 0 A := by
  refine Met.ofW (cc := cX11_room) (maxL := 5) (ret := (some .int)) (by decide) rfl ?_
  intro p e s m args below meth c s₁ B hml hv
  obtain ⟨rfl, hG, hZ⟩ := hv
  have hx := B.exec
  have hb := B.bytes
  have hr := B.returns
  have hts : ∀ w ∈ wsL_law, w.before ([.ref (ad 11 0 0), .int x1, .int x2, .int x3] : List Value).toArray s = true := fun w h => (atoms_spec B.pre) w (List.mem_cons_of_mem _ h)
  have hown : s.vm.findClass RX11 = some m.cls := findClass_of_methodNamed B.named
  have hlocks := B.notSynchronized
  have S : zS p m c cX11_room 5 s ([.ref (ad 11 0 0), .int x1, .int x2, .int x3] : List Value).toArray RX11 := ⟨hx, hb, hml, hown, hts⟩
  have hS : va_S A s.heap s.heap [] := va_S.rf
  have hl := lv_entry ([.ref (ad 11 0 0), .int x1, .int x2, .int x3]) (n := 5) (Nat.le_of_ble_eq_true rfl)
  rw [lg_entry_eq]
  generalize (lg_sl ([.ref (ad 11 0 0), .int x1, .int x2, .int x3]) ++ List.replicate (5 - (lg_sl ([.ref (ad 11 0 0), .int x1, .int x2, .int x3])).length) Slot.unset).toArray = ls at hl ⊢
  have hl : lv_has ls 5 [(0, .ref (ad 11 0 0)), (1, .int x1), (2, .int x2), (3, .int x3)] := hl
  generalize hargs : ([.ref (ad 11 0 0), .int x1, .int x2, .int x3] : List Value).toArray = args at S hts ⊢
  clear hargs
  have hK0 : ∀ (H : Heap) (locs : List Loc) (ls : Array Slot), zG D aC A nl ad σ s H → va_S A s.heap H locs → lv_has ls 5 [(0, .ref (ad 11 0 0)), (1, .int x1), (2, .int x2), (3, .int x3)] → f_X11_room σ x1 x2 x3 = some r → zWk p l e ({ frames := 3, cells := 0, slots := 0, locals := 71 } : Room) s m args below meth c A (some (.int r)) (fun t => zG D aC A nl ad σ t t.heap ∧ True) H locs (F0 m 0 ls []) := by
    intro H locs ls hG hS hl hf
    unfold f_X11_room at hf
    refine lv_aload_n hx hb dX11_room_0 rfl (lv_at hl 0 rfl) ?_
    refine lv_iload_n hx hb dX11_room_1 rfl (lv_at hl 1 rfl) ?_
    obtain ⟨r1, er1, hf⟩ := zbi hf
    refine z_callV (n := 1) (rest := []) (st1 := [va_rf (Option.map (fun j => ad 7 j 0) r1)]) (c0 := 11) (i0 := 0) (hZ.2.1 (11, 0) (by decide)) (by rfl) S hG hS hZ (fun _ _ h => h) (c_X11_schemeAt l D aC zs A nl ad σ x1 r1 er1) zw_806 zw_807 zw_808 zw_2 zw_809 (by decide +kernel) ⟨rfl, rfl⟩ ⟨(Nat.le_of_ble_eq_true rfl), (Nat.le_of_ble_eq_true rfl)⟩ hl.1 rfl (by rfl) (by rfl) (Nat.le_of_ble_eq_true rfl) dX11_room_2 ⟨Nat.zero_le _, Nat.zero_le _⟩ (fun H locs hz2 hG hS => ?_)
    rcases hE4 : r1 with _ | j3
    · have hf := znu_n0 hE4 hf
      refine W.eq (g2 := F0 m 5 ls [.null]) (by first | rfl | (rw [hE4]; rfl)) ?_
      refine lv_astoreN (lv' := [(4, .null), (0, .ref (ad 11 0 0)), (1, .int x1), (2, .int x2), (3, .int x3)]) hx hb dX11_room_5 hl (by decide) rfl (fun ls hl => ?_)
      refine lv_aloadN hx hb dX11_room_7 (lv_at hl 0 rfl) ?_
      refine lv_ifnullN (tgt := 19) hx hb dX11_room_9 (by decide) ?_
      refine lv_iconst (v := (-1)) hx hb dX11_room_19 (by decide) ?_
      have hq := (Option.some.inj hf)
      subst hq
      exact z_iret S hG hS hlocks trivial hr dX11_room_20
    · have hf := znu_s0 hE4 hf
      refine W.eq (g2 := F0 m 5 ls [.ref (ad 7 j3 0)]) (by first | rfl | (rw [hE4]; rfl)) ?_
      refine lv_astore (lv' := [(4, .ref (ad 7 j3 0)), (0, .ref (ad 11 0 0)), (1, .int x1), (2, .int x2), (3, .int x3)]) hx hb dX11_room_5 hl (by decide) rfl (fun ls hl => ?_)
      refine lv_aload hx hb dX11_room_7 (lv_at hl 0 rfl) ?_
      refine lv_ifnull hx hb dX11_room_9 ?_
      refine lv_iload_n hx hb dX11_room_12 rfl (lv_at hl 3 rfl) ?_
      refine z_callS (n := 1) (rest := []) (st1 := [.int (f_X11_isRoom x2)]) S hG hS hZ (fun _ _ h => h) (c_X11_isRoom l D aC zs A nl ad σ x2 (f_X11_isRoom x2) rfl) zw_869 zw_870 zw_2 zw_871 (by decide +kernel) ⟨rfl, rfl⟩ ⟨(Nat.le_of_ble_eq_true rfl), (Nat.le_of_ble_eq_true rfl)⟩ hl.1 rfl (by rfl) (by rfl) (Nat.le_of_ble_eq_true rfl) dX11_room_13 ⟨Nat.zero_le _, Nat.zero_le _⟩ (fun H locs hz5 hG hS => ?_)
      refine lv_if_ne (tgt := 21) hx hb dX11_room_16 (by decide) (fun c6 => ?_) (fun c6 => ?_)
      · have hf := zif_n c6 hf
        refine lv_iload_n hx hb dX11_room_21 rfl (lv_at hl 4 rfl) ?_
        by_cases c7 : x3 = 0
        · have hf := zif_p c7 hf
          refine lv_lookup (x := x3) (off := 26) (tgt := 48) hx hb dX11_room_22 (by decide) (by rw [c7]; decide) (by decide) ?_
          refine lv_aload hx hb dX11_room_48 (lv_at hl 0 rfl) ?_
          refine lv_iload_n hx hb dX11_room_50 rfl (lv_at hl 3 rfl) ?_
          obtain ⟨r8, er8, hf⟩ := zbi hf
          refine z_callV (n := 1) (rest := []) (st1 := [.int r8]) (c0 := 7) (i0 := j3) (hz2 j3 hE4) (by rfl) S hG hS hZ (fun _ _ h => h) (c_X7_countOf l D aC zs A nl ad σ j3 x2 r8 (hz2 j3 hE4) er8) zw_872 zw_873 zw_874 zw_783 zw_875 (by decide +kernel) ⟨rfl, rfl⟩ ⟨(Nat.le_of_ble_eq_true rfl), (Nat.le_of_ble_eq_true rfl)⟩ hl.1 rfl (by rfl) (by rfl) (Nat.le_of_ble_eq_true rfl) dX11_room_51 ⟨Nat.zero_le _, Nat.zero_le _⟩ (fun H locs hz9 hG hS => ?_)
          have hq := (Option.some.inj hf)
          subst hq
          exact z_iret S hG hS hlocks trivial hr dX11_room_54
        · have hf := zif_n c7 hf
          by_cases c10 : x3 = 1
          · have hf := zif_p c10 hf
            refine lv_lookup (x := x3) (off := 33) (tgt := 55) hx hb dX11_room_22 (by decide) (by rw [c10]; decide) (by decide) ?_
            refine lv_aload_n hx hb dX11_room_55 rfl (lv_at hl 1 rfl) ?_
            refine z_get (c0 := 11) (i0 := 0) (k0 := 4) (T := TX11) (v := .ref (ad 8 0 0)) S hG (hZ.2.1 (11, 0) (by decide)) rfl inlX11 (by decide) rfl zw_32 rfl dX11_room_56 ?_
            refine lv_aload hx hb dX11_room_59 (lv_at hl 0 rfl) ?_
            refine lv_iload_n hx hb dX11_room_61 rfl (lv_at hl 3 rfl) ?_
            obtain ⟨r11, er11, hf⟩ := zbi hf
            refine z_callV (n := 2) (rest := []) (st1 := [.int r11]) (c0 := 8) (i0 := 0) (hZ.2.1 (8, 0) (by decide)) (by rfl) S hG hS hZ (fun _ _ h => h) (c_X8_lightOf l D aC zs A nl ad σ j3 x2 r11 (hz2 j3 hE4) er11) zw_876 zw_877 zw_878 zw_31 zw_879 (by decide +kernel) ⟨rfl, rfl⟩ ⟨(Nat.le_of_ble_eq_true rfl), (Nat.le_of_ble_eq_true rfl)⟩ hl.1 rfl (by rfl) (by rfl) (Nat.le_of_ble_eq_true rfl) dX11_room_62 ⟨Nat.zero_le _, Nat.zero_le _⟩ (fun H locs hz12 hG hS => ?_)
            have hq := (Option.some.inj hf)
            subst hq
            exact z_iret S hG hS hlocks trivial hr dX11_room_65
          · have hf := zif_n c10 hf
            refine lv_lookup (x := x3) (off := 44) (tgt := 66) hx hb dX11_room_22 (by decide) ((lv_osw c7 rfl).trans ((lv_osw c10 rfl).trans (rfl))) (by decide) ?_
            refine lv_iconst (v := (-1)) hx hb dX11_room_66 (by decide) ?_
            have hq := (Option.some.inj hf)
            subst hq
            exact z_iret S hG hS hlocks trivial hr dX11_room_67
      · have hf := zif_p c6 hf
        refine lv_iconst (v := (-1)) hx hb dX11_room_19 (by decide) ?_
        have hq := (Option.some.inj hf)
        subst hq
        exact z_iret S hG hS hlocks trivial hr dX11_room_20
  exact hK0 _ _ ls hG hS hl hf
set_option maxRecDepth 100000 in
set_option maxHeartbeats 4000000 in
theorem c_X11_steps (l : Launch) (D : va_G) (aC : Nat → ClassId) (zs : Nat × Nat) (A : Nat → Prop) (nl : zNL) (ad : Nat → Nat → Nat → Nat) (σ : zM) (x1 : Int32) (x2 : Int32) (x3 : Int32) (r : Int32) (σ' : zM)  (hf : f_X11_steps σ x1 x2 x3 = some (r, σ')) : Met l yX11_steps (Cond.code yX11_steps cX11_steps 5 (some .int) :: wsL_law) ({ frames := 4, cells := 0, slots := 0, locals := 103 } : Room) (zP D aC zs zfX A nl ad σ [.ref (ad 11 0 0), .int x1, .int x2, .int x3]) (zQ (some (.int r)) (fun t => zG D aC A nl ad σ' t t.heap ∧ True) A) 0 0 A := by
  refine Met.ofW (cc := cX11_steps) (maxL := 5) (ret := (some .int)) (by decide) rfl ?_
  intro p e s m args below meth c s₁ B hml hv
  obtain ⟨rfl, hG, hZ⟩ := hv
  have hx := B.exec
  have hb := B.bytes
  have hr := B.returns
  have hts : ∀ w ∈ wsL_law, w.before ([.ref (ad 11 0 0), .int x1, .int x2, .int x3] : List Value).toArray s = true := fun w h => (atoms_spec B.pre) w (List.mem_cons_of_mem _ h)
  have hown : s.vm.findClass RX11 = some m.cls := findClass_of_methodNamed B.named
  have hlocks := B.notSynchronized
  have S : zS p m c cX11_steps 5 s ([.ref (ad 11 0 0), .int x1, .int x2, .int x3] : List Value).toArray RX11 := ⟨hx, hb, hml, hown, hts⟩
  have hS : va_S A s.heap s.heap [] := va_S.rf
  have hl := lv_entry ([.ref (ad 11 0 0), .int x1, .int x2, .int x3]) (n := 5) (Nat.le_of_ble_eq_true rfl)
  rw [lg_entry_eq]
  generalize (lg_sl ([.ref (ad 11 0 0), .int x1, .int x2, .int x3]) ++ List.replicate (5 - (lg_sl ([.ref (ad 11 0 0), .int x1, .int x2, .int x3])).length) Slot.unset).toArray = ls at hl ⊢
  have hl : lv_has ls 5 [(0, .ref (ad 11 0 0)), (1, .int x1), (2, .int x2), (3, .int x3)] := hl
  generalize hargs : ([.ref (ad 11 0 0), .int x1, .int x2, .int x3] : List Value).toArray = args at S hts ⊢
  clear hargs
  have hK0 : ∀ (H : Heap) (locs : List Loc) (ls : Array Slot), zG D aC A nl ad σ s H → va_S A s.heap H locs → lv_has ls 5 [(0, .ref (ad 11 0 0)), (1, .int x1), (2, .int x2), (3, .int x3)] → f_X11_steps σ x1 x2 x3 = some (r, σ') → zWk p l e ({ frames := 4, cells := 0, slots := 0, locals := 103 } : Room) s m args below meth c A (some (.int r)) (fun t => zG D aC A nl ad σ' t t.heap ∧ True) H locs (F0 m 0 ls []) := by
    intro H locs ls hG hS hl hf
    unfold f_X11_steps at hf
    refine lv_aload_n hx hb dX11_steps_0 rfl (lv_at hl 0 rfl) ?_
    refine lv_iload_n hx hb dX11_steps_1 rfl (lv_at hl 1 rfl) ?_
    obtain ⟨r1, er1, hf⟩ := zbi hf
    refine z_callV (n := 1) (rest := []) (st1 := [va_rf (Option.map (fun j => ad 7 j 0) r1)]) (c0 := 11) (i0 := 0) (hZ.2.1 (11, 0) (by decide)) (by rfl) S hG hS hZ (fun _ _ h => h) (c_X11_schemeAt l D aC zs A nl ad σ x1 r1 er1) zw_806 zw_807 zw_808 zw_2 zw_809 (by decide +kernel) ⟨rfl, rfl⟩ ⟨(Nat.le_of_ble_eq_true rfl), (Nat.le_of_ble_eq_true rfl)⟩ hl.1 rfl (by rfl) (by rfl) (Nat.le_of_ble_eq_true rfl) dX11_steps_2 ⟨Nat.zero_le _, Nat.zero_le _⟩ (fun H locs hz2 hG hS => ?_)
    rcases hE4 : r1 with _ | j3
    · have hf := znu_n0 hE4 hf
      refine W.eq (g2 := F0 m 5 ls [.null]) (by first | rfl | (rw [hE4]; rfl)) ?_
      refine lv_astoreN (lv' := [(4, .null), (0, .ref (ad 11 0 0)), (1, .int x1), (2, .int x2), (3, .int x3)]) hx hb dX11_steps_5 hl (by decide) rfl (fun ls hl => ?_)
      refine lv_aloadN hx hb dX11_steps_7 (lv_at hl 0 rfl) ?_
      refine lv_ifnullN (tgt := 31) hx hb dX11_steps_9 (by decide) ?_
      refine lv_iconst (v := (-1)) hx hb dX11_steps_31 (by decide) ?_
      obtain ⟨hq1, hq2⟩ := Prod.mk.inj (Option.some.inj hf)
      subst hq1
      subst hq2
      exact z_iret S hG hS hlocks trivial hr dX11_steps_32
    · have hf := znu_s0 hE4 hf
      refine W.eq (g2 := F0 m 5 ls [.ref (ad 7 j3 0)]) (by first | rfl | (rw [hE4]; rfl)) ?_
      refine lv_astore (lv' := [(4, .ref (ad 7 j3 0)), (0, .ref (ad 11 0 0)), (1, .int x1), (2, .int x2), (3, .int x3)]) hx hb dX11_steps_5 hl (by decide) rfl (fun ls hl => ?_)
      refine lv_aload hx hb dX11_steps_7 (lv_at hl 0 rfl) ?_
      refine lv_ifnull hx hb dX11_steps_9 ?_
      refine lv_iload_n hx hb dX11_steps_12 rfl (lv_at hl 3 rfl) ?_
      refine z_callS (n := 1) (rest := []) (st1 := [.int (f_X11_isRoom x2)]) S hG hS hZ (fun _ _ h => h) (c_X11_isRoom l D aC zs A nl ad σ x2 (f_X11_isRoom x2) rfl) zw_869 zw_870 zw_2 zw_871 (by decide +kernel) ⟨rfl, rfl⟩ ⟨(Nat.le_of_ble_eq_true rfl), (Nat.le_of_ble_eq_true rfl)⟩ hl.1 rfl (by rfl) (by rfl) (Nat.le_of_ble_eq_true rfl) dX11_steps_13 ⟨Nat.zero_le _, Nat.zero_le _⟩ (fun H locs hz5 hG hS => ?_)
      refine lv_if_eq (tgt := 31) hx hb dX11_steps_16 (by decide) (fun c6 => ?_) (fun c6 => ?_)
      · have hf := zif_p c6 hf
        refine lv_iconst (v := (-1)) hx hb dX11_steps_31 (by decide) ?_
        obtain ⟨hq1, hq2⟩ := Prod.mk.inj (Option.some.inj hf)
        subst hq1
        subst hq2
        exact z_iret S hG hS hlocks trivial hr dX11_steps_32
      · have hf := zif_n c6 hf
        refine lv_iload_n hx hb dX11_steps_19 rfl (lv_at hl 4 rfl) ?_
        refine z_callS (n := 1) (rest := []) (st1 := [.int (f_X11_isRoom x3)]) S hG hS hZ (fun _ _ h => h) (c_X11_isRoom l D aC zs A nl ad σ x3 (f_X11_isRoom x3) rfl) zw_869 zw_870 zw_2 zw_871 (by decide +kernel) ⟨rfl, rfl⟩ ⟨(Nat.le_of_ble_eq_true rfl), (Nat.le_of_ble_eq_true rfl)⟩ hl.1 rfl (by rfl) (by rfl) (Nat.le_of_ble_eq_true rfl) dX11_steps_20 ⟨Nat.zero_le _, Nat.zero_le _⟩ (fun H locs hz7 hG hS => ?_)
        refine lv_if_eq (tgt := 31) hx hb dX11_steps_23 (by decide) (fun c8 => ?_) (fun c8 => ?_)
        · have hf := zif_p c8 hf
          refine lv_iconst (v := (-1)) hx hb dX11_steps_31 (by decide) ?_
          obtain ⟨hq1, hq2⟩ := Prod.mk.inj (Option.some.inj hf)
          subst hq1
          subst hq2
          exact z_iret S hG hS hlocks trivial hr dX11_steps_32
        · have hf := zif_n c8 hf
          refine lv_iload_n hx hb dX11_steps_26 rfl (lv_at hl 3 rfl) ?_
          refine lv_iload_n hx hb dX11_steps_27 rfl (lv_at hl 4 rfl) ?_
          refine lv_icmp_ne (tgt := 33) hx hb dX11_steps_28 (by decide) (fun c9 => ?_) (fun c9 => ?_)
          · have hf := zif_n c9 hf
            refine lv_aload_n hx hb dX11_steps_33 rfl (lv_at hl 1 rfl) ?_
            refine z_get (c0 := 11) (i0 := 0) (k0 := 4) (T := TX11) (v := .ref (ad 8 0 0)) S hG (hZ.2.1 (11, 0) (by decide)) rfl inlX11 (by decide) rfl zw_32 rfl dX11_steps_34 ?_
            refine lv_aload hx hb dX11_steps_37 (lv_at hl 0 rfl) ?_
            refine lv_iload_n hx hb dX11_steps_39 rfl (lv_at hl 3 rfl) ?_
            refine lv_iload_n hx hb dX11_steps_40 rfl (lv_at hl 4 rfl) ?_
            refine lv_sipush (v := 160) hx hb dX11_steps_41 (by decide) ?_
            obtain ⟨q10, eq10, hf⟩ := zbi hf
            refine z_callV (n := 4) (rest := []) (st1 := [.int q10.1]) (c0 := 8) (i0 := 0) (hZ.2.1 (8, 0) (by decide)) (by rfl) S hG hS hZ (fun _ _ h => h) (c_X8_stepsWithin l D aC zs A nl ad σ j3 x2 x3 160 q10.1 q10.2 (hz2 j3 hE4) eq10) zw_917 zw_918 zw_919 zw_31 zw_920 (by decide +kernel) ⟨rfl, rfl⟩ ⟨(Nat.le_of_ble_eq_true rfl), (Nat.le_of_ble_eq_true rfl)⟩ hl.1 rfl (by rfl) (by rfl) (Nat.le_of_ble_eq_true rfl) dX11_steps_44 ⟨Nat.zero_le _, Nat.zero_le _⟩ (fun H locs hz11 hG hS => ?_)
            obtain ⟨hq1, hq2⟩ := Prod.mk.inj (Option.some.inj hf)
            subst hq1
            subst hq2
            exact z_iret S hG hS hlocks trivial hr dX11_steps_47
          · have hf := zif_p c9 hf
            refine lv_iconst (v := (-1)) hx hb dX11_steps_31 (by decide) ?_
            obtain ⟨hq1, hq2⟩ := Prod.mk.inj (Option.some.inj hf)
            subst hq1
            subst hq2
            exact z_iret S hG hS hlocks trivial hr dX11_steps_32
  exact hK0 _ _ ls hG hS hl hf
set_option maxRecDepth 100000 in
set_option maxHeartbeats 4000000 in
theorem c_X11_cost (l : Launch) (D : va_G) (aC : Nat → ClassId) (zs : Nat × Nat) (A : Nat → Prop) (nl : zNL) (ad : Nat → Nat → Nat → Nat) (σ : zM) (x1 : Int32) (x2 : Int32) (x3 : Int32) (r : Int32)  (hf : f_X11_cost σ x1 x2 x3 = some r) : Met l yX11_cost (Cond.code yX11_cost cX11_cost 8 (some .int) :: wsL_law) ({ frames := 3, cells := 0, slots := 0, locals := 67 } : Room) (zP D aC zs zfX A nl ad σ [.ref (ad 11 0 0), .int x1, .int x2, .int x3]) (zQ (some (.int r)) (fun t => zG D aC A nl ad σ t t.heap ∧ True) A) 0 0 A := by
  refine Met.ofW (cc := cX11_cost) (maxL := 8) (ret := (some .int)) (by decide) rfl ?_
  intro p e s m args below meth c s₁ B hml hv
  obtain ⟨rfl, hG, hZ⟩ := hv
  have hx := B.exec
  have hb := B.bytes
  have hr := B.returns
  have hts : ∀ w ∈ wsL_law, w.before ([.ref (ad 11 0 0), .int x1, .int x2, .int x3] : List Value).toArray s = true := fun w h => (atoms_spec B.pre) w (List.mem_cons_of_mem _ h)
  have hown : s.vm.findClass RX11 = some m.cls := findClass_of_methodNamed B.named
  have hlocks := B.notSynchronized
  have S : zS p m c cX11_cost 8 s ([.ref (ad 11 0 0), .int x1, .int x2, .int x3] : List Value).toArray RX11 := ⟨hx, hb, hml, hown, hts⟩
  have hS : va_S A s.heap s.heap [] := va_S.rf
  have hl := lv_entry ([.ref (ad 11 0 0), .int x1, .int x2, .int x3]) (n := 8) (Nat.le_of_ble_eq_true rfl)
  rw [lg_entry_eq]
  generalize (lg_sl ([.ref (ad 11 0 0), .int x1, .int x2, .int x3]) ++ List.replicate (8 - (lg_sl ([.ref (ad 11 0 0), .int x1, .int x2, .int x3])).length) Slot.unset).toArray = ls at hl ⊢
  have hl : lv_has ls 8 [(0, .ref (ad 11 0 0)), (1, .int x1), (2, .int x2), (3, .int x3)] := hl
  generalize hargs : ([.ref (ad 11 0 0), .int x1, .int x2, .int x3] : List Value).toArray = args at S hts ⊢
  clear hargs
  have hK0 : ∀ (H : Heap) (locs : List Loc) (ls : Array Slot), zG D aC A nl ad σ s H → va_S A s.heap H locs → lv_has ls 8 [(0, .ref (ad 11 0 0)), (1, .int x1), (2, .int x2), (3, .int x3)] → f_X11_cost σ x1 x2 x3 = some r → zWk p l e ({ frames := 3, cells := 0, slots := 0, locals := 67 } : Room) s m args below meth c A (some (.int r)) (fun t => zG D aC A nl ad σ t t.heap ∧ True) H locs (F0 m 0 ls []) := by
    intro H locs ls hG hS hl hf
    unfold f_X11_cost at hf
    refine lv_aload_n hx hb dX11_cost_0 rfl (lv_at hl 0 rfl) ?_
    refine lv_iload_n hx hb dX11_cost_1 rfl (lv_at hl 1 rfl) ?_
    obtain ⟨r1, er1, hf⟩ := zbi hf
    refine z_callV (n := 1) (rest := []) (st1 := [va_rf (Option.map (fun j => ad 7 j 0) r1)]) (c0 := 11) (i0 := 0) (hZ.2.1 (11, 0) (by decide)) (by rfl) S hG hS hZ (fun _ _ h => h) (c_X11_schemeAt l D aC zs A nl ad σ x1 r1 er1) zw_806 zw_807 zw_808 zw_2 zw_809 (by decide +kernel) ⟨rfl, rfl⟩ ⟨(Nat.le_of_ble_eq_true rfl), (Nat.le_of_ble_eq_true rfl)⟩ hl.1 rfl (by rfl) (by rfl) (Nat.le_of_ble_eq_true rfl) dX11_cost_2 ⟨Nat.zero_le _, Nat.zero_le _⟩ (fun H locs hz2 hG hS => ?_)
    rcases hE4 : r1 with _ | j3
    · have hf := znu_n0 hE4 hf
      refine W.eq (g2 := F0 m 5 ls [.null]) (by first | rfl | (rw [hE4]; rfl)) ?_
      refine lv_astoreN (lv' := [(4, .null), (0, .ref (ad 11 0 0)), (1, .int x1), (2, .int x2), (3, .int x3)]) hx hb dX11_cost_5 hl (by decide) rfl (fun ls hl => ?_)
      refine lv_aloadN hx hb dX11_cost_7 (lv_at hl 0 rfl) ?_
      refine lv_ifnullN (tgt := 19) hx hb dX11_cost_9 (by decide) ?_
      refine lv_iconst (v := (-1)) hx hb dX11_cost_19 (by decide) ?_
      have hq := (Option.some.inj hf)
      subst hq
      exact z_iret S hG hS hlocks trivial hr dX11_cost_20
    · have hf := znu_s0 hE4 hf
      refine W.eq (g2 := F0 m 5 ls [.ref (ad 7 j3 0)]) (by first | rfl | (rw [hE4]; rfl)) ?_
      refine lv_astore (lv' := [(4, .ref (ad 7 j3 0)), (0, .ref (ad 11 0 0)), (1, .int x1), (2, .int x2), (3, .int x3)]) hx hb dX11_cost_5 hl (by decide) rfl (fun ls hl => ?_)
      refine lv_aload hx hb dX11_cost_7 (lv_at hl 0 rfl) ?_
      refine lv_ifnull hx hb dX11_cost_9 ?_
      refine lv_iload_n hx hb dX11_cost_12 rfl (lv_at hl 3 rfl) ?_
      refine z_callS (n := 1) (rest := []) (st1 := [.int (f_X11_isDay x2)]) S hG hS hZ (fun _ _ h => h) (c_X11_isDay l D aC zs A nl ad σ x2 (f_X11_isDay x2) rfl) zw_671 zw_672 zw_2 zw_673 (by decide +kernel) ⟨rfl, rfl⟩ ⟨(Nat.le_of_ble_eq_true rfl), (Nat.le_of_ble_eq_true rfl)⟩ hl.1 rfl (by rfl) (by rfl) (Nat.le_of_ble_eq_true rfl) dX11_cost_13 ⟨Nat.zero_le _, Nat.zero_le _⟩ (fun H locs hz5 hG hS => ?_)
      refine lv_if_ne (tgt := 21) hx hb dX11_cost_16 (by decide) (fun c6 => ?_) (fun c6 => ?_)
      · have hf := zif_n c6 hf
        refine lv_aload_n hx hb dX11_cost_21 rfl (lv_at hl 1 rfl) ?_
        refine z_get (c0 := 11) (i0 := 0) (k0 := 2) (T := TX11) (v := .ref (ad 1 0 0)) S hG (hZ.2.1 (11, 0) (by decide)) rfl inlX11 (by decide) rfl zw_24 rfl dX11_cost_22 ?_
        refine lv_iload_n hx hb dX11_cost_25 rfl (lv_at hl 3 rfl) ?_
        obtain ⟨r7, er7, hf⟩ := zbi hf
        refine z_callV (n := 1) (rest := []) (st1 := [.ref (ad 0 r7 0)]) (c0 := 1) (i0 := 0) (hZ.2.1 (1, 0) (by decide)) (by rfl) S hG hS hZ (fun _ _ h => h) (c_X1_on l D aC zs A nl ad σ x2 r7 er7) zw_697 zw_698 zw_699 zw_23 zw_700 (by decide +kernel) ⟨rfl, rfl⟩ ⟨(Nat.le_of_ble_eq_true rfl), (Nat.le_of_ble_eq_true rfl)⟩ hl.1 rfl (by rfl) (by rfl) (Nat.le_of_ble_eq_true rfl) dX11_cost_26 ⟨Nat.zero_le _, Nat.zero_le _⟩ (fun H locs hz8 hG hS => ?_)
        refine lv_astore (lv' := [(5, .ref (ad 0 r7 0)), (4, .ref (ad 7 j3 0)), (0, .ref (ad 11 0 0)), (1, .int x1), (2, .int x2), (3, .int x3)]) hx hb dX11_cost_29 hl (by decide) rfl (fun ls hl => ?_)
        refine lv_aload hx hb dX11_cost_31 (lv_at hl 1 rfl) ?_
        refine lv_aload hx hb dX11_cost_33 (lv_at hl 0 rfl) ?_
        obtain ⟨r9, er9, hf⟩ := zbi hf
        refine z_callV (n := 1) (rest := []) (st1 := [.int r9]) (c0 := 7) (i0 := j3) (hz2 j3 hE4) (by rfl) S hG hS hZ (fun _ _ h => h) (c_X7_costBy l D aC zs A nl ad σ j3 r7 r9 (hz2 j3 hE4) hz8 er9) zw_950 zw_951 zw_952 zw_783 zw_953 (by decide +kernel) ⟨rfl, rfl⟩ ⟨(Nat.le_of_ble_eq_true rfl), (Nat.le_of_ble_eq_true rfl)⟩ hl.1 rfl (by rfl) (by rfl) (Nat.le_of_ble_eq_true rfl) dX11_cost_35 ⟨Nat.zero_le _, Nat.zero_le _⟩ (fun H locs hz10 hG hS => ?_)
        refine lv_istore (lv' := [(6, .int r9), (5, .ref (ad 0 r7 0)), (4, .ref (ad 7 j3 0)), (0, .ref (ad 11 0 0)), (1, .int x1), (2, .int x2), (3, .int x3)]) hx hb dX11_cost_38 hl (by decide) rfl (fun ls hl => ?_)
        refine lv_iload hx hb dX11_cost_40 (lv_at hl 0 rfl) ?_
        refine lv_aload hx hb dX11_cost_42 (lv_at hl 1 rfl) ?_
        refine lv_iconst (v := 3) hx hb dX11_cost_44 (by decide) ?_
        obtain ⟨r11, er11, hf⟩ := zbi hf
        refine z_callV (n := 1) (rest := [.int r9]) (st1 := [.int r11, .int r9]) (c0 := 0) (i0 := r7) hz8 (by rfl) S hG hS hZ (fun _ _ h => h) (c_X0_term l D aC zs A nl ad σ r7 3 r11 hz8 er11) zw_702 zw_703 zw_704 zw_76 zw_705 (by decide +kernel) ⟨rfl, rfl⟩ ⟨(Nat.le_of_ble_eq_true rfl), (Nat.le_of_ble_eq_true rfl)⟩ hl.1 rfl (by rfl) (by rfl) (Nat.le_of_ble_eq_true rfl) dX11_cost_45 ⟨Nat.zero_le _, Nat.zero_le _⟩ (fun H locs hz12 hG hS => ?_)
        refine lv_imul hx hb dX11_cost_48 ?_
        refine lv_bipush (v := 100) hx hb dX11_cost_49 (by decide) ?_
        refine lv_idiv hx hb dX11_cost_51 (by decide) ?_
        refine lv_istore (lv' := [(7, .int ((r9 * r11) / 100)), (6, .int r9), (5, .ref (ad 0 r7 0)), (4, .ref (ad 7 j3 0)), (0, .ref (ad 11 0 0)), (1, .int x1), (2, .int x2), (3, .int x3)]) hx hb dX11_cost_52 hl (by decide) rfl (fun ls hl => ?_)
        refine lv_iload_n hx hb dX11_cost_54 rfl (lv_at hl 7 rfl) ?_
        by_cases c13 : x3 = 0
        · have hf := zif_p c13 hf
          refine lv_tableIn (x := x3) (off := 25) (tgt := 80) hx hb dX11_cost_55 (by rw [c13]; decide) (by rw [c13]; decide) (by rw [c13]; decide) (by decide) ?_
          refine lv_iload hx hb dX11_cost_80 (lv_at hl 1 rfl) ?_
          have hq := (Option.some.inj hf)
          subst hq
          exact z_iret S hG hS hlocks trivial hr dX11_cost_82
        · have hf := zif_n c13 hf
          by_cases c14 : x3 = 1
          · have hf := zif_p c14 hf
            refine lv_tableIn (x := x3) (off := 28) (tgt := 83) hx hb dX11_cost_55 (by rw [c14]; decide) (by rw [c14]; decide) (by rw [c14]; decide) (by decide) ?_
            refine lv_iload hx hb dX11_cost_83 (lv_at hl 1 rfl) ?_
            refine lv_iload hx hb dX11_cost_85 (lv_at hl 0 rfl) ?_
            refine lv_isub hx hb dX11_cost_87 ?_
            have hq := (Option.some.inj hf)
            subst hq
            exact z_iret S hG hS hlocks trivial hr dX11_cost_88
          · have hf := zif_n c14 hf
            by_cases c15 : x3 = 2
            · have hf := zif_p c15 hf
              refine lv_tableIn (x := x3) (off := 34) (tgt := 89) hx hb dX11_cost_55 (by rw [c15]; decide) (by rw [c15]; decide) (by rw [c15]; decide) (by decide) ?_
              refine lv_iload hx hb dX11_cost_89 (lv_at hl 1 rfl) ?_
              refine lv_iload hx hb dX11_cost_91 (lv_at hl 0 rfl) ?_
              refine lv_iadd hx hb dX11_cost_93 ?_
              have hq := (Option.some.inj hf)
              subst hq
              exact z_iret S hG hS hlocks trivial hr dX11_cost_94
            · have hf := zif_n c15 hf
              have hout : x3.toInt < 0 ∨ 2 < x3.toInt := by
                rcases (show x3.toInt < 0 ∨ 2 < x3.toInt ∨ x3.toInt = 0 ∨ x3.toInt = 1 ∨ x3.toInt = 2 by omega) with h | h | h | h | h
                · exact Or.inl h
                · exact Or.inr h
                · exact absurd (Int32.toInt_inj.mp (h.trans (by decide : (0 : Int) = (0 : Int32).toInt))) c13
                · exact absurd (Int32.toInt_inj.mp (h.trans (by decide : (1 : Int) = (1 : Int32).toInt))) c14
                · exact absurd (Int32.toInt_inj.mp (h.trans (by decide : (2 : Int) = (2 : Int32).toInt))) c15
              refine lv_tableOut (x := x3) (tgt := 95) hx hb dX11_cost_55 hout (by decide) ?_
              refine lv_iconst (v := (-1)) hx hb dX11_cost_95 (by decide) ?_
              have hq := (Option.some.inj hf)
              subst hq
              exact z_iret S hG hS hlocks trivial hr dX11_cost_96
      · have hf := zif_p c6 hf
        refine lv_iconst (v := (-1)) hx hb dX11_cost_19 (by decide) ?_
        have hq := (Option.some.inj hf)
        subst hq
        exact z_iret S hG hS hlocks trivial hr dX11_cost_20
  exact hK0 _ _ ls hG hS hl hf
set_option maxRecDepth 100000 in
set_option maxHeartbeats 4000000 in
theorem c_X11_briefOf (l : Launch) (D : va_G) (aC : Nat → ClassId) (zs : Nat × Nat) (A : Nat → Prop) (nl : zNL) (ad : Nat → Nat → Nat → Nat) (σ : zM) (x1 : Nat) (r : Nat) (h_x1 : zin nl 7 x1) (hf : f_X11_briefOf σ x1 = some r) : Met l yX11_briefOf (Cond.code yX11_briefOf cX11_briefOf 2 (some (.object "BuildingJury$Brief")) :: wsL_law) ({ frames := 3, cells := 0, slots := 0, locals := 67 } : Room) (zP D aC zs zfX A nl ad σ [.ref (ad 11 0 0), .ref (ad 7 x1 0)]) (zQ (some (.ref (ad 0 r 0))) (fun t => zG D aC A nl ad σ t t.heap ∧ zin nl 0 r) A) 0 0 A := by
  refine Met.ofW (cc := cX11_briefOf) (maxL := 2) (ret := (some (.object "BuildingJury$Brief"))) (by decide) rfl ?_
  intro p e s m args below meth c s₁ B hml hv
  obtain ⟨rfl, hG, hZ⟩ := hv
  have hx := B.exec
  have hb := B.bytes
  have hr := B.returns
  have hts : ∀ w ∈ wsL_law, w.before ([.ref (ad 11 0 0), .ref (ad 7 x1 0)] : List Value).toArray s = true := fun w h => (atoms_spec B.pre) w (List.mem_cons_of_mem _ h)
  have hown : s.vm.findClass RX11 = some m.cls := findClass_of_methodNamed B.named
  have hlocks := B.notSynchronized
  have S : zS p m c cX11_briefOf 2 s ([.ref (ad 11 0 0), .ref (ad 7 x1 0)] : List Value).toArray RX11 := ⟨hx, hb, hml, hown, hts⟩
  have hS : va_S A s.heap s.heap [] := va_S.rf
  have hl := lv_entry ([.ref (ad 11 0 0), .ref (ad 7 x1 0)]) (n := 2) (Nat.le_of_ble_eq_true rfl)
  rw [lg_entry_eq]
  generalize (lg_sl ([.ref (ad 11 0 0), .ref (ad 7 x1 0)]) ++ List.replicate (2 - (lg_sl ([.ref (ad 11 0 0), .ref (ad 7 x1 0)])).length) Slot.unset).toArray = ls at hl ⊢
  have hl : lv_has ls 2 [(0, .ref (ad 11 0 0)), (1, .ref (ad 7 x1 0))] := hl
  generalize hargs : ([.ref (ad 11 0 0), .ref (ad 7 x1 0)] : List Value).toArray = args at S hts ⊢
  clear hargs
  have KJ22 : ∀ (t1b22 : Int32)   (H : Heap) (locs : List Loc) (ls : Array Slot), zG D aC A nl ad σ s H → va_S A s.heap H locs → lv_has ls 2 [(0, .ref (ad 11 0 0)), (1, .ref (ad 7 x1 0))] → (f_X11_briefOf_B22 σ x1 t1b22) = some r → zWk p l e ({ frames := 3, cells := 0, slots := 0, locals := 67 } : Room) s m args below meth c A (some (.ref (ad 0 r 0))) (fun t => zG D aC A nl ad σ t t.heap ∧ zin nl 0 r) H locs (F0 m 22 ls [.int t1b22, .ref (ad 1 0 0)]) := by
    intro t1b22   H locs ls hG hS hl hf
    unfold f_X11_briefOf_B22 at hf
    obtain ⟨r3, er3, hf⟩ := zbi hf
    refine z_callV (n := 1) (rest := []) (st1 := [.ref (ad 0 r3 0)]) (c0 := 1) (i0 := 0) (hZ.2.1 (1, 0) (by decide)) (by rfl) S hG hS hZ (fun _ _ h => h) (c_X1_on l D aC zs A nl ad σ t1b22 r3 er3) zw_697 zw_698 zw_699 zw_23 zw_700 (by decide +kernel) ⟨rfl, rfl⟩ ⟨(Nat.le_of_ble_eq_true rfl), (Nat.le_of_ble_eq_true rfl)⟩ hl.1 rfl (by rfl) (by rfl) (Nat.le_of_ble_eq_true rfl) dX11_briefOf_22 ⟨Nat.zero_le _, Nat.zero_le _⟩ (fun H locs hz4 hG hS => ?_)
    have hq := (Option.some.inj hf)
    subst hq
    exact z_aret S hG hS hlocks (by exact hz4) hr (Or.inl ⟨_, rfl⟩) (Or.inr ⟨_, rfl⟩) dX11_briefOf_25
  have hK0 : ∀ (H : Heap) (locs : List Loc) (ls : Array Slot), zG D aC A nl ad σ s H → va_S A s.heap H locs → lv_has ls 2 [(0, .ref (ad 11 0 0)), (1, .ref (ad 7 x1 0))] → f_X11_briefOf σ x1 = some r → zWk p l e ({ frames := 3, cells := 0, slots := 0, locals := 67 } : Room) s m args below meth c A (some (.ref (ad 0 r 0))) (fun t => zG D aC A nl ad σ t t.heap ∧ zin nl 0 r) H locs (F0 m 0 ls []) := by
    intro H locs ls hG hS hl hf
    unfold f_X11_briefOf at hf
    refine lv_aload_n hx hb dX11_briefOf_0 rfl (lv_at hl 0 rfl) ?_
    refine z_get (c0 := 11) (i0 := 0) (k0 := 2) (T := TX11) (v := .ref (ad 1 0 0)) S hG (hZ.2.1 (11, 0) (by decide)) rfl inlX11 (by decide) rfl zw_24 rfl dX11_briefOf_1 ?_
    refine lv_aload_n hx hb dX11_briefOf_4 rfl (lv_at hl 1 rfl) ?_
    refine z_callV (n := 0) (rest := [.ref (ad 1 0 0)]) (st1 := [.int (f_X7_isHandedIn σ x1), .ref (ad 1 0 0)]) (c0 := 7) (i0 := x1) h_x1 (by rfl) S hG hS hZ (fun _ _ h => h) (c_X7_isHandedIn l D aC zs A nl ad σ x1 (f_X7_isHandedIn σ x1) h_x1 rfl) zw_810 zw_811 zw_812 zw_783 zw_813 (by decide +kernel) ⟨rfl, rfl⟩ ⟨(Nat.le_of_ble_eq_true rfl), (Nat.le_of_ble_eq_true rfl)⟩ hl.1 rfl (by rfl) (by rfl) (Nat.le_of_ble_eq_true rfl) dX11_briefOf_5 ⟨Nat.zero_le _, Nat.zero_le _⟩ (fun H locs hz1 hG hS => ?_)
    refine lv_if_eq (tgt := 18) hx hb dX11_briefOf_8 (by decide) (fun c2 => ?_) (fun c2 => ?_)
    · have hf := zif_p c2 hf
      refine lv_aload_n hx hb dX11_briefOf_18 rfl (lv_at hl 0 rfl) ?_
      refine z_get (c0 := 11) (i0 := 0) (k0 := 10) (T := TX11) (v := .int (zI σ 11 0 10)) S hG (hZ.2.1 (11, 0) (by decide)) rfl inlX11 (by decide) rfl zw_48 rfl dX11_briefOf_19 ?_
      exact KJ22 (zI σ 11 0 10) H locs ls hG hS (lv_sub hl [0, 1] rfl) hf
    · have hf := zif_n c2 hf
      refine lv_aload_n hx hb dX11_briefOf_11 rfl (lv_at hl 1 rfl) ?_
      refine z_get (c0 := 7) (i0 := x1) (k0 := 1) (T := TX7) (v := .int (zI σ 7 x1 1)) S hG h_x1 rfl inlX7 (by decide) rfl zw_860 rfl dX11_briefOf_12 ?_
      refine lv_goto (tgt := 22) hx hb dX11_briefOf_15 (by decide) ?_
      exact KJ22 (zI σ 7 x1 1) H locs ls hG hS (lv_sub hl [0, 1] rfl) hf
  exact hK0 _ _ ls hG hS hl hf
set_option maxRecDepth 100000 in
set_option maxHeartbeats 4000000 in
theorem c_X11_why (l : Launch) (D : va_G) (aC : Nat → ClassId) (zs : Nat × Nat) (A : Nat → Prop) (nl : zNL) (ad : Nat → Nat → Nat → Nat) (σ : zM) (x1 : Int32) (r : Int32) (σ' : zM)  (hf : f_X11_why σ x1 = some (r, σ')) : Met l yX11_why (Cond.code yX11_why cX11_why 3 (some .int) :: wsL_law) ({ frames := 7, cells := 0, slots := 0, locals := 177 } : Room) (zP D aC zs zfX A nl ad σ [.ref (ad 11 0 0), .int x1]) (zQ (some (.int r)) (fun t => zG D aC A nl ad σ' t t.heap ∧ True) A) 0 0 A := by
  refine Met.ofW (cc := cX11_why) (maxL := 3) (ret := (some .int)) (by decide) rfl ?_
  intro p e s m args below meth c s₁ B hml hv
  obtain ⟨rfl, hG, hZ⟩ := hv
  have hx := B.exec
  have hb := B.bytes
  have hr := B.returns
  have hts : ∀ w ∈ wsL_law, w.before ([.ref (ad 11 0 0), .int x1] : List Value).toArray s = true := fun w h => (atoms_spec B.pre) w (List.mem_cons_of_mem _ h)
  have hown : s.vm.findClass RX11 = some m.cls := findClass_of_methodNamed B.named
  have hlocks := B.notSynchronized
  have S : zS p m c cX11_why 3 s ([.ref (ad 11 0 0), .int x1] : List Value).toArray RX11 := ⟨hx, hb, hml, hown, hts⟩
  have hS : va_S A s.heap s.heap [] := va_S.rf
  have hl := lv_entry ([.ref (ad 11 0 0), .int x1]) (n := 3) (Nat.le_of_ble_eq_true rfl)
  rw [lg_entry_eq]
  generalize (lg_sl ([.ref (ad 11 0 0), .int x1]) ++ List.replicate (3 - (lg_sl ([.ref (ad 11 0 0), .int x1])).length) Slot.unset).toArray = ls at hl ⊢
  have hl : lv_has ls 3 [(0, .ref (ad 11 0 0)), (1, .int x1)] := hl
  generalize hargs : ([.ref (ad 11 0 0), .int x1] : List Value).toArray = args at S hts ⊢
  clear hargs
  have hK0 : ∀ (H : Heap) (locs : List Loc) (ls : Array Slot), zG D aC A nl ad σ s H → va_S A s.heap H locs → lv_has ls 3 [(0, .ref (ad 11 0 0)), (1, .int x1)] → f_X11_why σ x1 = some (r, σ') → zWk p l e ({ frames := 7, cells := 0, slots := 0, locals := 177 } : Room) s m args below meth c A (some (.int r)) (fun t => zG D aC A nl ad σ' t t.heap ∧ True) H locs (F0 m 0 ls []) := by
    intro H locs ls hG hS hl hf
    unfold f_X11_why at hf
    refine lv_aload_n hx hb dX11_why_0 rfl (lv_at hl 0 rfl) ?_
    refine lv_iload_n hx hb dX11_why_1 rfl (lv_at hl 1 rfl) ?_
    obtain ⟨r1, er1, hf⟩ := zbi hf
    refine z_callV (n := 1) (rest := []) (st1 := [va_rf (Option.map (fun j => ad 7 j 0) r1)]) (c0 := 11) (i0 := 0) (hZ.2.1 (11, 0) (by decide)) (by rfl) S hG hS hZ (fun _ _ h => h) (c_X11_schemeAt l D aC zs A nl ad σ x1 r1 er1) zw_806 zw_807 zw_808 zw_2 zw_809 (by decide +kernel) ⟨rfl, rfl⟩ ⟨(Nat.le_of_ble_eq_true rfl), (Nat.le_of_ble_eq_true rfl)⟩ hl.1 rfl (by rfl) (by rfl) (Nat.le_of_ble_eq_true rfl) dX11_why_2 ⟨Nat.zero_le _, Nat.zero_le _⟩ (fun H locs hz2 hG hS => ?_)
    rcases hE4 : r1 with _ | j3
    · have hf := znu_n0 hE4 hf
      refine W.eq (g2 := F0 m 5 ls [.null]) (by first | rfl | (rw [hE4]; rfl)) ?_
      refine lv_astore_nN (lv' := [(2, .null), (0, .ref (ad 11 0 0)), (1, .int x1)]) hx hb dX11_why_5 rfl hl (by decide) rfl (fun ls hl => ?_)
      refine lv_aload_nN hx hb dX11_why_6 rfl (lv_at hl 0 rfl) ?_
      refine lv_ifnonnullN hx hb dX11_why_7 ?_
      refine lv_bipush (v := (-2)) hx hb dX11_why_10 (by decide) ?_
      refine lv_goto (tgt := 32) hx hb dX11_why_12 (by decide) ?_
      obtain ⟨hq1, hq2⟩ := Prod.mk.inj (Option.some.inj hf)
      subst hq1
      subst hq2
      exact z_iret S hG hS hlocks trivial hr dX11_why_32
    · have hf := znu_s0 hE4 hf
      refine W.eq (g2 := F0 m 5 ls [.ref (ad 7 j3 0)]) (by first | rfl | (rw [hE4]; rfl)) ?_
      refine lv_astore_n (lv' := [(2, .ref (ad 7 j3 0)), (0, .ref (ad 11 0 0)), (1, .int x1)]) hx hb dX11_why_5 rfl hl (by decide) rfl (fun ls hl => ?_)
      refine lv_aload_n hx hb dX11_why_6 rfl (lv_at hl 0 rfl) ?_
      refine lv_ifnonnull (tgt := 15) hx hb dX11_why_7 (by decide) ?_
      refine lv_aload_n hx hb dX11_why_15 rfl (lv_at hl 1 rfl) ?_
      refine z_get (c0 := 11) (i0 := 0) (k0 := 4) (T := TX11) (v := .ref (ad 8 0 0)) S hG (hZ.2.1 (11, 0) (by decide)) rfl inlX11 (by decide) rfl zw_32 rfl dX11_why_16 ?_
      refine lv_aload_n hx hb dX11_why_19 rfl (lv_at hl 0 rfl) ?_
      refine lv_aload_n hx hb dX11_why_20 rfl (lv_at hl 1 rfl) ?_
      refine lv_aload_n hx hb dX11_why_21 rfl (lv_at hl 0 rfl) ?_
      obtain ⟨r5, er5, hf⟩ := zbi hf
      refine z_callV (n := 1) (rest := [.ref (ad 7 j3 0), .ref (ad 8 0 0)]) (st1 := [.ref (ad 0 r5 0), .ref (ad 7 j3 0), .ref (ad 8 0 0)]) (c0 := 11) (i0 := 0) (hZ.2.1 (11, 0) (by decide)) (by rfl) S hG hS hZ (fun _ _ h => h) (c_X11_briefOf l D aC zs A nl ad σ j3 r5 (hz2 j3 hE4) er5) zw_974 zw_975 zw_976 zw_2 zw_977 (by decide +kernel) ⟨rfl, rfl⟩ ⟨(Nat.le_of_ble_eq_true rfl), (Nat.le_of_ble_eq_true rfl)⟩ hl.1 rfl (by rfl) (by rfl) (Nat.le_of_ble_eq_true rfl) dX11_why_22 ⟨Nat.zero_le _, Nat.zero_le _⟩ (fun H locs hz6 hG hS => ?_)
      refine lv_aload_n hx hb dX11_why_25 rfl (lv_at hl 1 rfl) ?_
      refine z_get (c0 := 11) (i0 := 0) (k0 := 10) (T := TX11) (v := .int (zI σ 11 0 10)) S hG (hZ.2.1 (11, 0) (by decide)) rfl inlX11 (by decide) rfl zw_48 rfl dX11_why_26 ?_
      obtain ⟨q7, eq7, hf⟩ := zbi hf
      refine z_callV (n := 3) (rest := []) (st1 := [.int q7.1]) (c0 := 8) (i0 := 0) (hZ.2.1 (8, 0) (by decide)) (by rfl) S hG hS hZ (fun _ _ h => h) (c_X8_firstBroken l D aC zs A nl ad σ j3 r5 (zI σ 11 0 10) q7.1 q7.2 (hz2 j3 hE4) hz6 eq7) zw_978 zw_979 zw_980 zw_31 zw_981 (by decide +kernel) ⟨rfl, rfl⟩ ⟨(Nat.le_of_ble_eq_true rfl), (Nat.le_of_ble_eq_true rfl)⟩ hl.1 rfl (by rfl) (by rfl) (Nat.le_of_ble_eq_true rfl) dX11_why_29 ⟨Nat.zero_le _, Nat.zero_le _⟩ (fun H locs hz8 hG hS => ?_)
      obtain ⟨hq1, hq2⟩ := Prod.mk.inj (Option.some.inj hf)
      subst hq1
      subst hq2
      exact z_iret S hG hS hlocks trivial hr dX11_why_32
  exact hK0 _ _ ls hG hS hl hf
set_option maxRecDepth 100000 in
set_option maxHeartbeats 4000000 in
theorem c_X11_mend (l : Launch) (D : va_G) (aC : Nat → ClassId) (zs : Nat × Nat) (A : Nat → Prop) (nl : zNL) (ad : Nat → Nat → Nat → Nat) (σ : zM) (x1 : Int32) (x2 : Int32) (r : Int32) (σ' : zM)  (hf : f_X11_mend σ x1 x2 = some (r, σ')) : Met l yX11_mend (Cond.code yX11_mend cX11_mend 4 (some .int) :: wsL_law) ({ frames := 8, cells := 0, slots := 0, locals := 207 } : Room) (zP D aC zs zfX A nl ad σ [.ref (ad 11 0 0), .int x1, .int x2]) (zQ (some (.int r)) (fun t => zG D aC A nl ad σ' t t.heap ∧ True) A) 0 0 A := by
  refine Met.ofW (cc := cX11_mend) (maxL := 4) (ret := (some .int)) (by decide) rfl ?_
  intro p e s m args below meth c s₁ B hml hv
  obtain ⟨rfl, hG, hZ⟩ := hv
  have hx := B.exec
  have hb := B.bytes
  have hr := B.returns
  have hts : ∀ w ∈ wsL_law, w.before ([.ref (ad 11 0 0), .int x1, .int x2] : List Value).toArray s = true := fun w h => (atoms_spec B.pre) w (List.mem_cons_of_mem _ h)
  have hown : s.vm.findClass RX11 = some m.cls := findClass_of_methodNamed B.named
  have hlocks := B.notSynchronized
  have S : zS p m c cX11_mend 4 s ([.ref (ad 11 0 0), .int x1, .int x2] : List Value).toArray RX11 := ⟨hx, hb, hml, hown, hts⟩
  have hS : va_S A s.heap s.heap [] := va_S.rf
  have hl := lv_entry ([.ref (ad 11 0 0), .int x1, .int x2]) (n := 4) (Nat.le_of_ble_eq_true rfl)
  rw [lg_entry_eq]
  generalize (lg_sl ([.ref (ad 11 0 0), .int x1, .int x2]) ++ List.replicate (4 - (lg_sl ([.ref (ad 11 0 0), .int x1, .int x2])).length) Slot.unset).toArray = ls at hl ⊢
  have hl : lv_has ls 4 [(0, .ref (ad 11 0 0)), (1, .int x1), (2, .int x2)] := hl
  generalize hargs : ([.ref (ad 11 0 0), .int x1, .int x2] : List Value).toArray = args at S hts ⊢
  clear hargs
  have hK0 : ∀ (H : Heap) (locs : List Loc) (ls : Array Slot), zG D aC A nl ad σ s H → va_S A s.heap H locs → lv_has ls 4 [(0, .ref (ad 11 0 0)), (1, .int x1), (2, .int x2)] → f_X11_mend σ x1 x2 = some (r, σ') → zWk p l e ({ frames := 8, cells := 0, slots := 0, locals := 207 } : Room) s m args below meth c A (some (.int r)) (fun t => zG D aC A nl ad σ' t t.heap ∧ True) H locs (F0 m 0 ls []) := by
    intro H locs ls hG hS hl hf
    unfold f_X11_mend at hf
    refine lv_aload_n hx hb dX11_mend_0 rfl (lv_at hl 0 rfl) ?_
    refine lv_iload_n hx hb dX11_mend_1 rfl (lv_at hl 1 rfl) ?_
    obtain ⟨r1, er1, hf⟩ := zbi hf
    refine z_callV (n := 1) (rest := []) (st1 := [va_rf (Option.map (fun j => ad 7 j 0) r1)]) (c0 := 11) (i0 := 0) (hZ.2.1 (11, 0) (by decide)) (by rfl) S hG hS hZ (fun _ _ h => h) (c_X11_schemeAt l D aC zs A nl ad σ x1 r1 er1) zw_806 zw_807 zw_808 zw_2 zw_809 (by decide +kernel) ⟨rfl, rfl⟩ ⟨(Nat.le_of_ble_eq_true rfl), (Nat.le_of_ble_eq_true rfl)⟩ hl.1 rfl (by rfl) (by rfl) (Nat.le_of_ble_eq_true rfl) dX11_mend_2 ⟨Nat.zero_le _, Nat.zero_le _⟩ (fun H locs hz2 hG hS => ?_)
    rcases hE4 : r1 with _ | j3
    · have hf := znu_n0 hE4 hf
      refine W.eq (g2 := F0 m 5 ls [.null]) (by first | rfl | (rw [hE4]; rfl)) ?_
      refine lv_astore_nN (lv' := [(3, .null), (0, .ref (ad 11 0 0)), (1, .int x1), (2, .int x2)]) hx hb dX11_mend_5 rfl hl (by decide) rfl (fun ls hl => ?_)
      refine lv_aload_nN hx hb dX11_mend_6 rfl (lv_at hl 0 rfl) ?_
      refine lv_ifnonnullN hx hb dX11_mend_7 ?_
      refine lv_iconst (v := (-1)) hx hb dX11_mend_10 (by decide) ?_
      obtain ⟨hq1, hq2⟩ := Prod.mk.inj (Option.some.inj hf)
      subst hq1
      subst hq2
      exact z_iret S hG hS hlocks trivial hr dX11_mend_11
    · have hf := znu_s0 hE4 hf
      refine W.eq (g2 := F0 m 5 ls [.ref (ad 7 j3 0)]) (by first | rfl | (rw [hE4]; rfl)) ?_
      refine lv_astore_n (lv' := [(3, .ref (ad 7 j3 0)), (0, .ref (ad 11 0 0)), (1, .int x1), (2, .int x2)]) hx hb dX11_mend_5 rfl hl (by decide) rfl (fun ls hl => ?_)
      refine lv_aload_n hx hb dX11_mend_6 rfl (lv_at hl 0 rfl) ?_
      refine lv_ifnonnull (tgt := 12) hx hb dX11_mend_7 (by decide) ?_
      refine lv_aload_n hx hb dX11_mend_12 rfl (lv_at hl 1 rfl) ?_
      refine z_get (c0 := 11) (i0 := 0) (k0 := 4) (T := TX11) (v := .ref (ad 8 0 0)) S hG (hZ.2.1 (11, 0) (by decide)) rfl inlX11 (by decide) rfl zw_32 rfl dX11_mend_13 ?_
      refine lv_iload_n hx hb dX11_mend_16 rfl (lv_at hl 2 rfl) ?_
      refine lv_aload_n hx hb dX11_mend_17 rfl (lv_at hl 0 rfl) ?_
      refine lv_aload_n hx hb dX11_mend_18 rfl (lv_at hl 1 rfl) ?_
      refine lv_aload_n hx hb dX11_mend_19 rfl (lv_at hl 0 rfl) ?_
      obtain ⟨r5, er5, hf⟩ := zbi hf
      refine z_callV (n := 1) (rest := [.ref (ad 7 j3 0), .int x1, .ref (ad 8 0 0)]) (st1 := [.ref (ad 0 r5 0), .ref (ad 7 j3 0), .int x1, .ref (ad 8 0 0)]) (c0 := 11) (i0 := 0) (hZ.2.1 (11, 0) (by decide)) (by rfl) S hG hS hZ (fun _ _ h => h) (c_X11_briefOf l D aC zs A nl ad σ j3 r5 (hz2 j3 hE4) er5) zw_974 zw_975 zw_976 zw_2 zw_977 (by decide +kernel) ⟨rfl, rfl⟩ ⟨(Nat.le_of_ble_eq_true rfl), (Nat.le_of_ble_eq_true rfl)⟩ hl.1 rfl (by rfl) (by rfl) (Nat.le_of_ble_eq_true rfl) dX11_mend_20 ⟨Nat.zero_le _, Nat.zero_le _⟩ (fun H locs hz6 hG hS => ?_)
      refine lv_aload_n hx hb dX11_mend_23 rfl (lv_at hl 1 rfl) ?_
      refine z_get (c0 := 11) (i0 := 0) (k0 := 10) (T := TX11) (v := .int (zI σ 11 0 10)) S hG (hZ.2.1 (11, 0) (by decide)) rfl inlX11 (by decide) rfl zw_48 rfl dX11_mend_24 ?_
      obtain ⟨σ7, eσ7, hf⟩ := zbi hf
      refine z_callV (n := 4) (rest := []) (st1 := []) (c0 := 8) (i0 := 0) (hZ.2.1 (8, 0) (by decide)) (by rfl) S hG hS hZ (fun _ _ h => h) (c_X8_seekMend l D aC zs A nl ad σ x1 j3 r5 (zI σ 11 0 10) σ7 (hz2 j3 hE4) hz6 eσ7) zw_1064 zw_1065 zw_1066 zw_31 zw_1067 (by decide +kernel) ⟨rfl, rfl⟩ ⟨(Nat.le_of_ble_eq_true rfl), (Nat.le_of_ble_eq_true rfl)⟩ hl.1 rfl (by rfl) (by rfl) (Nat.le_of_ble_eq_true rfl) dX11_mend_27 ⟨Nat.zero_le _, Nat.zero_le _⟩ (fun H locs hz8 hG hS => ?_)
      refine lv_aload_n hx hb dX11_mend_30 rfl (lv_at hl 1 rfl) ?_
      refine z_get (c0 := 11) (i0 := 0) (k0 := 4) (T := TX11) (v := .ref (ad 8 0 0)) S hG (hZ.2.1 (11, 0) (by decide)) rfl inlX11 (by decide) rfl zw_32 rfl dX11_mend_31 ?_
      refine lv_iload_n hx hb dX11_mend_34 rfl (lv_at hl 3 rfl) ?_
      obtain ⟨r9, er9, hf⟩ := zbi hf
      refine z_callV (n := 1) (rest := []) (st1 := [.int r9]) (c0 := 8) (i0 := 0) (hZ.2.1 (8, 0) (by decide)) (by rfl) S hG hS hZ (fun _ _ h => h) (c_X8_mendPart l D aC zs A nl ad σ7 x2 r9 er9) zw_1077 zw_1078 zw_1079 zw_31 zw_1080 (by decide +kernel) ⟨rfl, rfl⟩ ⟨(Nat.le_of_ble_eq_true rfl), (Nat.le_of_ble_eq_true rfl)⟩ hl.1 rfl (by rfl) (by rfl) (Nat.le_of_ble_eq_true rfl) dX11_mend_35 ⟨Nat.zero_le _, Nat.zero_le _⟩ (fun H locs hz10 hG hS => ?_)
      obtain ⟨hq1, hq2⟩ := Prod.mk.inj (Option.some.inj hf)
      subst hq1
      subst hq2
      exact z_iret S hG hS hlocks trivial hr dX11_mend_38
  exact hK0 _ _ ls hG hS hl hf
set_option maxRecDepth 100000 in
set_option maxHeartbeats 4000000 in
theorem c_X11_lookAt (l : Launch) (D : va_G) (aC : Nat → ClassId) (zs : Nat × Nat) (A : Nat → Prop) (nl : zNL) (ad : Nat → Nat → Nat → Nat) (σ : zM) (x1 : Int32) (x2 : Int32) (r : Int32) (σ' : zM)  (hf : f_X11_lookAt σ x1 x2 = some (r, σ')) : Met l yX11_lookAt (Cond.code yX11_lookAt cX11_lookAt 5 (some .int) :: wsL_law) ({ frames := 3, cells := 0, slots := 0, locals := 74 } : Room) (zP D aC zs zfX A nl ad σ [.ref (ad 11 0 0), .int x1, .int x2]) (zQ (some (.int r)) (fun t => zG D aC A nl ad σ' t t.heap ∧ True) A) 0 0 A := by
  refine Met.ofW (cc := cX11_lookAt) (maxL := 5) (ret := (some .int)) (by decide) rfl ?_
  intro p e s m args below meth c s₁ B hml hv
  obtain ⟨rfl, hG, hZ⟩ := hv
  have hx := B.exec
  have hb := B.bytes
  have hr := B.returns
  have hts : ∀ w ∈ wsL_law, w.before ([.ref (ad 11 0 0), .int x1, .int x2] : List Value).toArray s = true := fun w h => (atoms_spec B.pre) w (List.mem_cons_of_mem _ h)
  have hown : s.vm.findClass RX11 = some m.cls := findClass_of_methodNamed B.named
  have hlocks := B.notSynchronized
  have S : zS p m c cX11_lookAt 5 s ([.ref (ad 11 0 0), .int x1, .int x2] : List Value).toArray RX11 := ⟨hx, hb, hml, hown, hts⟩
  have hS : va_S A s.heap s.heap [] := va_S.rf
  have hl := lv_entry ([.ref (ad 11 0 0), .int x1, .int x2]) (n := 5) (Nat.le_of_ble_eq_true rfl)
  rw [lg_entry_eq]
  generalize (lg_sl ([.ref (ad 11 0 0), .int x1, .int x2]) ++ List.replicate (5 - (lg_sl ([.ref (ad 11 0 0), .int x1, .int x2])).length) Slot.unset).toArray = ls at hl ⊢
  have hl : lv_has ls 5 [(0, .ref (ad 11 0 0)), (1, .int x1), (2, .int x2)] := hl
  generalize hargs : ([.ref (ad 11 0 0), .int x1, .int x2] : List Value).toArray = args at S hts ⊢
  clear hargs
  have hK0 : ∀ (H : Heap) (locs : List Loc) (ls : Array Slot), zG D aC A nl ad σ s H → va_S A s.heap H locs → lv_has ls 5 [(0, .ref (ad 11 0 0)), (1, .int x1), (2, .int x2)] → f_X11_lookAt σ x1 x2 = some (r, σ') → zWk p l e ({ frames := 3, cells := 0, slots := 0, locals := 74 } : Room) s m args below meth c A (some (.int r)) (fun t => zG D aC A nl ad σ' t t.heap ∧ True) H locs (F0 m 0 ls []) := by
    intro H locs ls hG hS hl hf
    unfold f_X11_lookAt at hf
    refine lv_aload_n hx hb dX11_lookAt_0 rfl (lv_at hl 0 rfl) ?_
    refine lv_iload_n hx hb dX11_lookAt_1 rfl (lv_at hl 1 rfl) ?_
    obtain ⟨r1, er1, hf⟩ := zbi hf
    refine z_callV (n := 1) (rest := []) (st1 := [va_rf (Option.map (fun j => ad 7 j 0) r1)]) (c0 := 11) (i0 := 0) (hZ.2.1 (11, 0) (by decide)) (by rfl) S hG hS hZ (fun _ _ h => h) (c_X11_schemeAt l D aC zs A nl ad σ x1 r1 er1) zw_806 zw_807 zw_808 zw_2 zw_809 (by decide +kernel) ⟨rfl, rfl⟩ ⟨(Nat.le_of_ble_eq_true rfl), (Nat.le_of_ble_eq_true rfl)⟩ hl.1 rfl (by rfl) (by rfl) (Nat.le_of_ble_eq_true rfl) dX11_lookAt_2 ⟨Nat.zero_le _, Nat.zero_le _⟩ (fun H locs hz2 hG hS => ?_)
    rcases hE4 : r1 with _ | j3
    · have hf := znu_n0 hE4 hf
      refine W.eq (g2 := F0 m 5 ls [.null]) (by first | rfl | (rw [hE4]; rfl)) ?_
      refine lv_astore_nN (lv' := [(3, .null), (0, .ref (ad 11 0 0)), (1, .int x1), (2, .int x2)]) hx hb dX11_lookAt_5 rfl hl (by decide) rfl (fun ls hl => ?_)
      refine lv_aload_n hx hb dX11_lookAt_6 rfl (lv_at hl 1 rfl) ?_
      refine lv_iload_n hx hb dX11_lookAt_7 rfl (lv_at hl 3 rfl) ?_
      obtain ⟨r5, er5, hf⟩ := zbi hf
      refine z_callV (n := 1) (rest := []) (st1 := [va_rf (Option.map (fun j => ad 7 j 0) r5)]) (c0 := 11) (i0 := 0) (hZ.2.1 (11, 0) (by decide)) (by rfl) S hG hS hZ (fun _ _ h => h) (c_X11_schemeAt l D aC zs A nl ad σ x2 r5 er5) zw_806 zw_807 zw_808 zw_2 zw_809 (by decide +kernel) ⟨rfl, rfl⟩ ⟨(Nat.le_of_ble_eq_true rfl), (Nat.le_of_ble_eq_true rfl)⟩ hl.1 rfl (by rfl) (by rfl) (Nat.le_of_ble_eq_true rfl) dX11_lookAt_8 ⟨Nat.zero_le _, Nat.zero_le _⟩ (fun H locs hz6 hG hS => ?_)
      rcases hE8 : r5 with _ | j7
      · have hf := znu_n0 hE8 hf
        refine W.eq (g2 := F0 m 11 ls [.null]) (by first | rfl | (rw [hE8]; rfl)) ?_
        refine lv_astoreN (lv' := [(4, .null), (3, .null), (0, .ref (ad 11 0 0)), (1, .int x1), (2, .int x2)]) hx hb dX11_lookAt_11 hl (by decide) rfl (fun ls hl => ?_)
        refine lv_aload_nN hx hb dX11_lookAt_13 rfl (lv_at hl 1 rfl) ?_
        refine lv_ifnullN (tgt := 22) hx hb dX11_lookAt_14 (by decide) ?_
        refine lv_iconst (v := (-1)) hx hb dX11_lookAt_22 (by decide) ?_
        obtain ⟨hq1, hq2⟩ := Prod.mk.inj (Option.some.inj hf)
        subst hq1
        subst hq2
        exact z_iret S hG hS hlocks trivial hr dX11_lookAt_23
      · have hf := znu_s0 hE8 hf
        refine W.eq (g2 := F0 m 11 ls [.ref (ad 7 j7 0)]) (by first | rfl | (rw [hE8]; rfl)) ?_
        refine lv_astore (lv' := [(4, .ref (ad 7 j7 0)), (3, .null), (0, .ref (ad 11 0 0)), (1, .int x1), (2, .int x2)]) hx hb dX11_lookAt_11 hl (by decide) rfl (fun ls hl => ?_)
        refine lv_aload_nN hx hb dX11_lookAt_13 rfl (lv_at hl 1 rfl) ?_
        refine lv_ifnullN (tgt := 22) hx hb dX11_lookAt_14 (by decide) ?_
        refine lv_iconst (v := (-1)) hx hb dX11_lookAt_22 (by decide) ?_
        obtain ⟨hq1, hq2⟩ := Prod.mk.inj (Option.some.inj hf)
        subst hq1
        subst hq2
        exact z_iret S hG hS hlocks trivial hr dX11_lookAt_23
    · have hf := znu_s0 hE4 hf
      refine W.eq (g2 := F0 m 5 ls [.ref (ad 7 j3 0)]) (by first | rfl | (rw [hE4]; rfl)) ?_
      refine lv_astore_n (lv' := [(3, .ref (ad 7 j3 0)), (0, .ref (ad 11 0 0)), (1, .int x1), (2, .int x2)]) hx hb dX11_lookAt_5 rfl hl (by decide) rfl (fun ls hl => ?_)
      refine lv_aload_n hx hb dX11_lookAt_6 rfl (lv_at hl 1 rfl) ?_
      refine lv_iload_n hx hb dX11_lookAt_7 rfl (lv_at hl 3 rfl) ?_
      obtain ⟨r9, er9, hf⟩ := zbi hf
      refine z_callV (n := 1) (rest := []) (st1 := [va_rf (Option.map (fun j => ad 7 j 0) r9)]) (c0 := 11) (i0 := 0) (hZ.2.1 (11, 0) (by decide)) (by rfl) S hG hS hZ (fun _ _ h => h) (c_X11_schemeAt l D aC zs A nl ad σ x2 r9 er9) zw_806 zw_807 zw_808 zw_2 zw_809 (by decide +kernel) ⟨rfl, rfl⟩ ⟨(Nat.le_of_ble_eq_true rfl), (Nat.le_of_ble_eq_true rfl)⟩ hl.1 rfl (by rfl) (by rfl) (Nat.le_of_ble_eq_true rfl) dX11_lookAt_8 ⟨Nat.zero_le _, Nat.zero_le _⟩ (fun H locs hz10 hG hS => ?_)
      rcases hE12 : r9 with _ | j11
      · have hf := znu_n0 hE12 hf
        refine W.eq (g2 := F0 m 11 ls [.null]) (by first | rfl | (rw [hE12]; rfl)) ?_
        refine lv_astoreN (lv' := [(4, .null), (3, .ref (ad 7 j3 0)), (0, .ref (ad 11 0 0)), (1, .int x1), (2, .int x2)]) hx hb dX11_lookAt_11 hl (by decide) rfl (fun ls hl => ?_)
        refine lv_aload_n hx hb dX11_lookAt_13 rfl (lv_at hl 1 rfl) ?_
        refine lv_ifnull hx hb dX11_lookAt_14 ?_
        refine lv_aloadN hx hb dX11_lookAt_17 (lv_at hl 0 rfl) ?_
        refine lv_ifnonnullN hx hb dX11_lookAt_19 ?_
        refine lv_iconst (v := (-1)) hx hb dX11_lookAt_22 (by decide) ?_
        obtain ⟨hq1, hq2⟩ := Prod.mk.inj (Option.some.inj hf)
        subst hq1
        subst hq2
        exact z_iret S hG hS hlocks trivial hr dX11_lookAt_23
      · have hf := znu_s0 hE12 hf
        refine W.eq (g2 := F0 m 11 ls [.ref (ad 7 j11 0)]) (by first | rfl | (rw [hE12]; rfl)) ?_
        refine lv_astore (lv' := [(4, .ref (ad 7 j11 0)), (3, .ref (ad 7 j3 0)), (0, .ref (ad 11 0 0)), (1, .int x1), (2, .int x2)]) hx hb dX11_lookAt_11 hl (by decide) rfl (fun ls hl => ?_)
        refine lv_aload_n hx hb dX11_lookAt_13 rfl (lv_at hl 1 rfl) ?_
        refine lv_ifnull hx hb dX11_lookAt_14 ?_
        refine lv_aload hx hb dX11_lookAt_17 (lv_at hl 0 rfl) ?_
        refine lv_ifnonnull (tgt := 24) hx hb dX11_lookAt_19 (by decide) ?_
        refine lv_aload_n hx hb dX11_lookAt_24 rfl (lv_at hl 2 rfl) ?_
        refine lv_dup hx hb dX11_lookAt_25 rfl ?_
        refine z_get (c0 := 11) (i0 := 0) (k0 := 13) (T := TX11) (v := .long (zJ σ 11 0 13)) S hG (hZ.2.1 (11, 0) (by decide)) rfl inlX11 (by decide) rfl zw_51 rfl dX11_lookAt_26 ?_
        refine lv_lconst (v := 1) hx hb dX11_lookAt_29 (by decide) ?_
        refine lv_iload_n hx hb dX11_lookAt_30 rfl (lv_at hl 4 rfl) ?_
        refine lv_iload_n hx hb dX11_lookAt_31 rfl (lv_at hl 4 rfl) ?_
        refine lv_iconst (v := 1) hx hb dX11_lookAt_32 (by decide) ?_
        refine lv_isub hx hb dX11_lookAt_33 ?_
        refine lv_imul hx hb dX11_lookAt_34 ?_
        refine lv_iconst (v := 2) hx hb dX11_lookAt_35 (by decide) ?_
        refine lv_idiv hx hb dX11_lookAt_36 (by decide) ?_
        refine lv_iload_n hx hb dX11_lookAt_37 rfl (lv_at hl 3 rfl) ?_
        refine lv_iadd hx hb dX11_lookAt_38 ?_
        refine lv_lshl (v := (zlshl 1 (((x2 * (x2 - 1)) / 2) + x1))) hx hb dX11_lookAt_39 rfl ?_
        refine lv_lor hx hb dX11_lookAt_40 ?_
        refine z_putJ (c0 := 11) (i0 := 0) (k0 := 13) (T := TX11) S hG hS tyX11 tyX11_ok nmX11 (hZ.2.1 (11, 0) (by decide)) rfl inlX11 (by decide) rfl rfl zw_51 (by decide +kernel) rfl dX11_lookAt_41 (fun H locs hG hS => ?_)
        obtain ⟨σ13, eσ13, hf⟩ := zlt_s hf
        rw [← eσ13] at hG
        refine lv_aload_n hx hb dX11_lookAt_44 rfl (lv_at hl 1 rfl) ?_
        refine lv_aload hx hb dX11_lookAt_45 (lv_at hl 0 rfl) ?_
        obtain ⟨r14, er14, hf⟩ := zbi hf
        refine z_callV (n := 1) (rest := []) (st1 := [.int r14]) (c0 := 7) (i0 := j3) (hz2 j3 hE4) (by rfl) S hG hS hZ (fun _ _ h => h) (c_X7_alikeCells l D aC zs A nl ad σ13 j3 j11 r14 (hz2 j3 hE4) (hz10 j11 hE12) er14) zw_1099 zw_1100 zw_1101 zw_783 zw_1102 (by decide +kernel) ⟨rfl, rfl⟩ ⟨(Nat.le_of_ble_eq_true rfl), (Nat.le_of_ble_eq_true rfl)⟩ hl.1 rfl (by rfl) (by rfl) (Nat.le_of_ble_eq_true rfl) dX11_lookAt_47 ⟨Nat.zero_le _, Nat.zero_le _⟩ (fun H locs hz15 hG hS => ?_)
        obtain ⟨hq1, hq2⟩ := Prod.mk.inj (Option.some.inj hf)
        subst hq1
        subst hq2
        exact z_iret S hG hS hlocks trivial hr dX11_lookAt_50
  exact hK0 _ _ ls hG hS hl hf
set_option maxRecDepth 100000 in
set_option maxHeartbeats 4000000 in
theorem c_X11_alike (l : Launch) (D : va_G) (aC : Nat → ClassId) (zs : Nat × Nat) (A : Nat → Prop) (nl : zNL) (ad : Nat → Nat → Nat → Nat) (σ : zM) (x1 : Int32) (x2 : Int32) (r : Int32) (σ' : zM)  (hf : f_X11_alike σ x1 x2 = some (r, σ')) : Met l yX11_alike (Cond.code yX11_alike cX11_alike 5 (some .int) :: wsL_law) ({ frames := 4, cells := 0, slots := 0, locals := 98 } : Room) (zP D aC zs zfX A nl ad σ [.ref (ad 11 0 0), .int x1, .int x2]) (zQ (some (.int r)) (fun t => zG D aC A nl ad σ' t t.heap ∧ True) A) 0 0 A := by
  refine Met.ofW (cc := cX11_alike) (maxL := 5) (ret := (some .int)) (by decide) rfl ?_
  intro p e s m args below meth c s₁ B hml hv
  obtain ⟨rfl, hG, hZ⟩ := hv
  have hx := B.exec
  have hb := B.bytes
  have hr := B.returns
  have hts : ∀ w ∈ wsL_law, w.before ([.ref (ad 11 0 0), .int x1, .int x2] : List Value).toArray s = true := fun w h => (atoms_spec B.pre) w (List.mem_cons_of_mem _ h)
  have hown : s.vm.findClass RX11 = some m.cls := findClass_of_methodNamed B.named
  have hlocks := B.notSynchronized
  have S : zS p m c cX11_alike 5 s ([.ref (ad 11 0 0), .int x1, .int x2] : List Value).toArray RX11 := ⟨hx, hb, hml, hown, hts⟩
  have hS : va_S A s.heap s.heap [] := va_S.rf
  have hl := lv_entry ([.ref (ad 11 0 0), .int x1, .int x2]) (n := 5) (Nat.le_of_ble_eq_true rfl)
  rw [lg_entry_eq]
  generalize (lg_sl ([.ref (ad 11 0 0), .int x1, .int x2]) ++ List.replicate (5 - (lg_sl ([.ref (ad 11 0 0), .int x1, .int x2])).length) Slot.unset).toArray = ls at hl ⊢
  have hl : lv_has ls 5 [(0, .ref (ad 11 0 0)), (1, .int x1), (2, .int x2)] := hl
  generalize hargs : ([.ref (ad 11 0 0), .int x1, .int x2] : List Value).toArray = args at S hts ⊢
  clear hargs
  have hK0 : ∀ (H : Heap) (locs : List Loc) (ls : Array Slot), zG D aC A nl ad σ s H → va_S A s.heap H locs → lv_has ls 5 [(0, .ref (ad 11 0 0)), (1, .int x1), (2, .int x2)] → f_X11_alike σ x1 x2 = some (r, σ') → zWk p l e ({ frames := 4, cells := 0, slots := 0, locals := 98 } : Room) s m args below meth c A (some (.int r)) (fun t => zG D aC A nl ad σ' t t.heap ∧ True) H locs (F0 m 0 ls []) := by
    intro H locs ls hG hS hl hf
    unfold f_X11_alike at hf
    refine lv_aload_n hx hb dX11_alike_0 rfl (lv_at hl 0 rfl) ?_
    refine lv_iload_n hx hb dX11_alike_1 rfl (lv_at hl 1 rfl) ?_
    obtain ⟨r1, er1, hf⟩ := zbi hf
    refine z_callV (n := 1) (rest := []) (st1 := [va_rf (Option.map (fun j => ad 7 j 0) r1)]) (c0 := 11) (i0 := 0) (hZ.2.1 (11, 0) (by decide)) (by rfl) S hG hS hZ (fun _ _ h => h) (c_X11_schemeAt l D aC zs A nl ad σ x1 r1 er1) zw_806 zw_807 zw_808 zw_2 zw_809 (by decide +kernel) ⟨rfl, rfl⟩ ⟨(Nat.le_of_ble_eq_true rfl), (Nat.le_of_ble_eq_true rfl)⟩ hl.1 rfl (by rfl) (by rfl) (Nat.le_of_ble_eq_true rfl) dX11_alike_2 ⟨Nat.zero_le _, Nat.zero_le _⟩ (fun H locs hz2 hG hS => ?_)
    rcases hE4 : r1 with _ | j3
    · have hf := znu_n0 hE4 hf
      refine W.eq (g2 := F0 m 5 ls [.null]) (by first | rfl | (rw [hE4]; rfl)) ?_
      refine lv_astore_nN (lv' := [(3, .null), (0, .ref (ad 11 0 0)), (1, .int x1), (2, .int x2)]) hx hb dX11_alike_5 rfl hl (by decide) rfl (fun ls hl => ?_)
      refine lv_aload_n hx hb dX11_alike_6 rfl (lv_at hl 1 rfl) ?_
      refine lv_iload_n hx hb dX11_alike_7 rfl (lv_at hl 3 rfl) ?_
      obtain ⟨r5, er5, hf⟩ := zbi hf
      refine z_callV (n := 1) (rest := []) (st1 := [va_rf (Option.map (fun j => ad 7 j 0) r5)]) (c0 := 11) (i0 := 0) (hZ.2.1 (11, 0) (by decide)) (by rfl) S hG hS hZ (fun _ _ h => h) (c_X11_schemeAt l D aC zs A nl ad σ x2 r5 er5) zw_806 zw_807 zw_808 zw_2 zw_809 (by decide +kernel) ⟨rfl, rfl⟩ ⟨(Nat.le_of_ble_eq_true rfl), (Nat.le_of_ble_eq_true rfl)⟩ hl.1 rfl (by rfl) (by rfl) (Nat.le_of_ble_eq_true rfl) dX11_alike_8 ⟨Nat.zero_le _, Nat.zero_le _⟩ (fun H locs hz6 hG hS => ?_)
      rcases hE8 : r5 with _ | j7
      · have hf := znu_n0 hE8 hf
        refine W.eq (g2 := F0 m 11 ls [.null]) (by first | rfl | (rw [hE8]; rfl)) ?_
        refine lv_astoreN (lv' := [(4, .null), (3, .null), (0, .ref (ad 11 0 0)), (1, .int x1), (2, .int x2)]) hx hb dX11_alike_11 hl (by decide) rfl (fun ls hl => ?_)
        refine lv_aload_nN hx hb dX11_alike_13 rfl (lv_at hl 1 rfl) ?_
        refine lv_ifnullN (tgt := 27) hx hb dX11_alike_14 (by decide) ?_
        refine lv_iconst (v := (-1)) hx hb dX11_alike_27 (by decide) ?_
        obtain ⟨hq1, hq2⟩ := Prod.mk.inj (Option.some.inj hf)
        subst hq1
        subst hq2
        exact z_iret S hG hS hlocks trivial hr dX11_alike_28
      · have hf := znu_s0 hE8 hf
        refine W.eq (g2 := F0 m 11 ls [.ref (ad 7 j7 0)]) (by first | rfl | (rw [hE8]; rfl)) ?_
        refine lv_astore (lv' := [(4, .ref (ad 7 j7 0)), (3, .null), (0, .ref (ad 11 0 0)), (1, .int x1), (2, .int x2)]) hx hb dX11_alike_11 hl (by decide) rfl (fun ls hl => ?_)
        refine lv_aload_nN hx hb dX11_alike_13 rfl (lv_at hl 1 rfl) ?_
        refine lv_ifnullN (tgt := 27) hx hb dX11_alike_14 (by decide) ?_
        refine lv_iconst (v := (-1)) hx hb dX11_alike_27 (by decide) ?_
        obtain ⟨hq1, hq2⟩ := Prod.mk.inj (Option.some.inj hf)
        subst hq1
        subst hq2
        exact z_iret S hG hS hlocks trivial hr dX11_alike_28
    · have hf := znu_s0 hE4 hf
      refine W.eq (g2 := F0 m 5 ls [.ref (ad 7 j3 0)]) (by first | rfl | (rw [hE4]; rfl)) ?_
      refine lv_astore_n (lv' := [(3, .ref (ad 7 j3 0)), (0, .ref (ad 11 0 0)), (1, .int x1), (2, .int x2)]) hx hb dX11_alike_5 rfl hl (by decide) rfl (fun ls hl => ?_)
      refine lv_aload_n hx hb dX11_alike_6 rfl (lv_at hl 1 rfl) ?_
      refine lv_iload_n hx hb dX11_alike_7 rfl (lv_at hl 3 rfl) ?_
      obtain ⟨r9, er9, hf⟩ := zbi hf
      refine z_callV (n := 1) (rest := []) (st1 := [va_rf (Option.map (fun j => ad 7 j 0) r9)]) (c0 := 11) (i0 := 0) (hZ.2.1 (11, 0) (by decide)) (by rfl) S hG hS hZ (fun _ _ h => h) (c_X11_schemeAt l D aC zs A nl ad σ x2 r9 er9) zw_806 zw_807 zw_808 zw_2 zw_809 (by decide +kernel) ⟨rfl, rfl⟩ ⟨(Nat.le_of_ble_eq_true rfl), (Nat.le_of_ble_eq_true rfl)⟩ hl.1 rfl (by rfl) (by rfl) (Nat.le_of_ble_eq_true rfl) dX11_alike_8 ⟨Nat.zero_le _, Nat.zero_le _⟩ (fun H locs hz10 hG hS => ?_)
      rcases hE12 : r9 with _ | j11
      · have hf := znu_n0 hE12 hf
        refine W.eq (g2 := F0 m 11 ls [.null]) (by first | rfl | (rw [hE12]; rfl)) ?_
        refine lv_astoreN (lv' := [(4, .null), (3, .ref (ad 7 j3 0)), (0, .ref (ad 11 0 0)), (1, .int x1), (2, .int x2)]) hx hb dX11_alike_11 hl (by decide) rfl (fun ls hl => ?_)
        refine lv_aload_n hx hb dX11_alike_13 rfl (lv_at hl 1 rfl) ?_
        refine lv_ifnull hx hb dX11_alike_14 ?_
        refine lv_aloadN hx hb dX11_alike_17 (lv_at hl 0 rfl) ?_
        refine lv_ifnullN (tgt := 27) hx hb dX11_alike_19 (by decide) ?_
        refine lv_iconst (v := (-1)) hx hb dX11_alike_27 (by decide) ?_
        obtain ⟨hq1, hq2⟩ := Prod.mk.inj (Option.some.inj hf)
        subst hq1
        subst hq2
        exact z_iret S hG hS hlocks trivial hr dX11_alike_28
      · have hf := znu_s0 hE12 hf
        refine W.eq (g2 := F0 m 11 ls [.ref (ad 7 j11 0)]) (by first | rfl | (rw [hE12]; rfl)) ?_
        refine lv_astore (lv' := [(4, .ref (ad 7 j11 0)), (3, .ref (ad 7 j3 0)), (0, .ref (ad 11 0 0)), (1, .int x1), (2, .int x2)]) hx hb dX11_alike_11 hl (by decide) rfl (fun ls hl => ?_)
        refine lv_aload_n hx hb dX11_alike_13 rfl (lv_at hl 1 rfl) ?_
        refine lv_ifnull hx hb dX11_alike_14 ?_
        refine lv_aload hx hb dX11_alike_17 (lv_at hl 0 rfl) ?_
        refine lv_ifnull hx hb dX11_alike_19 ?_
        refine lv_iload_n hx hb dX11_alike_22 rfl (lv_at hl 3 rfl) ?_
        refine lv_iload_n hx hb dX11_alike_23 rfl (lv_at hl 4 rfl) ?_
        refine lv_icmp_ne (tgt := 29) hx hb dX11_alike_24 (by decide) (fun c13 => ?_) (fun c13 => ?_)
        · have hf := zif_n c13 hf
          refine lv_aload_n hx hb dX11_alike_29 rfl (lv_at hl 2 rfl) ?_
          refine lv_iload_n hx hb dX11_alike_30 rfl (lv_at hl 3 rfl) ?_
          refine lv_iload_n hx hb dX11_alike_31 rfl (lv_at hl 4 rfl) ?_
          refine z_mmin (v := (zmin x1 x2)) S hl zw_1093 zw_679 zw_91 zw_680 (Nat.le_of_ble_eq_true rfl) (Nat.le_of_ble_eq_true rfl) (Nat.le_of_ble_eq_true rfl) (Nat.zero_le _) (Nat.zero_le _) rfl dX11_alike_32 ?_
          refine lv_iload_n hx hb dX11_alike_35 rfl (lv_at hl 3 rfl) ?_
          refine lv_iload_n hx hb dX11_alike_36 rfl (lv_at hl 4 rfl) ?_
          refine z_mmax (v := (zmax x1 x2)) S hl zw_1094 zw_90 zw_91 zw_92 (Nat.le_of_ble_eq_true rfl) (Nat.le_of_ble_eq_true rfl) (Nat.le_of_ble_eq_true rfl) (Nat.zero_le _) (Nat.zero_le _) rfl dX11_alike_37 ?_
          obtain ⟨q14, eq14, hf⟩ := zbi hf
          refine z_callV (n := 2) (rest := []) (st1 := [.int q14.1]) (c0 := 11) (i0 := 0) (hZ.2.1 (11, 0) (by decide)) (by rfl) S hG hS hZ (fun _ _ h => h) (c_X11_lookAt l D aC zs A nl ad σ (zmin x1 x2) (zmax x1 x2) q14.1 q14.2 eq14) zw_1095 zw_1096 zw_1097 zw_2 zw_1098 (by decide +kernel) ⟨rfl, rfl⟩ ⟨(Nat.le_of_ble_eq_true rfl), (Nat.le_of_ble_eq_true rfl)⟩ hl.1 rfl (by rfl) (by rfl) (Nat.le_of_ble_eq_true rfl) dX11_alike_40 ⟨Nat.zero_le _, Nat.zero_le _⟩ (fun H locs hz15 hG hS => ?_)
          obtain ⟨hq1, hq2⟩ := Prod.mk.inj (Option.some.inj hf)
          subst hq1
          subst hq2
          exact z_iret S hG hS hlocks trivial hr dX11_alike_43
        · have hf := zif_p c13 hf
          refine lv_iconst (v := (-1)) hx hb dX11_alike_27 (by decide) ?_
          obtain ⟨hq1, hq2⟩ := Prod.mk.inj (Option.some.inj hf)
          subst hq1
          subst hq2
          exact z_iret S hG hS hlocks trivial hr dX11_alike_28
  exact hK0 _ _ ls hG hS hl hf
