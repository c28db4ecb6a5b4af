set_option maxRecDepth 100000 in
set_option maxHeartbeats 4000000 in
theorem c_X12_takesNew (l : Launch) (D : va_G) (aC : Nat → ClassId) (zs : Nat × Nat) (A : Nat → Prop) (nl : zNL) (ad : Nat → Nat → Nat → Nat) (σ : zM)  (r : Int32) (σ' : zM)  (hf : f_X12_takesNew σ = some (r, σ')) : Met l yX12_takesNew (Cond.code yX12_takesNew cX12_takesNew 3 (some .boolean) :: wsL_law) ({ frames := 2, cells := 0, slots := 0, locals := 43 } : Room) (zP D aC zs zfM A nl ad σ [.ref (ad 12 0 0)]) (zQ (some (.int r)) (fun t => zG D aC A nl ad σ' t t.heap ∧ (r = 0 ∨ r = 1)) A) 0 0 A := by
  refine Met.ofW (cc := cX12_takesNew) (maxL := 3) (ret := (some .boolean)) (by decide) rfl ?_
  intro p e s m args below meth c s₁ B hml hv
  obtain ⟨rfl, hG, hZ⟩ := hv
  have hx := B.exec
  have hb := B.bytes
  have hr := B.returns
  have hts : ∀ w ∈ wsL_law, w.before ([.ref (ad 12 0 0)] : List Value).toArray s = true := fun w h => (atoms_spec B.pre) w (List.mem_cons_of_mem _ h)
  have hown : s.vm.findClass RX12 = some m.cls := findClass_of_methodNamed B.named
  have hlocks := B.notSynchronized
  have S : zS p m c cX12_takesNew 3 s ([.ref (ad 12 0 0)] : List Value).toArray RX12 := ⟨hx, hb, hml, hown, hts⟩
  have hS : va_S A s.heap s.heap [] := va_S.rf
  have hl := lv_entry ([.ref (ad 12 0 0)]) (n := 3) (Nat.le_of_ble_eq_true rfl)
  rw [lg_entry_eq]
  generalize (lg_sl ([.ref (ad 12 0 0)]) ++ List.replicate (3 - (lg_sl ([.ref (ad 12 0 0)])).length) Slot.unset).toArray = ls at hl ⊢
  have hl : lv_has ls 3 [(0, .ref (ad 12 0 0))] := hl
  generalize hargs : ([.ref (ad 12 0 0)] : List Value).toArray = args at S hts ⊢
  clear hargs
  have KJ60 : ∀ (y1b60 : Int64)  (σb60 : zM) (H : Heap) (locs : List Loc) (ls : Array Slot), zG D aC A nl ad σb60 s H → va_S A s.heap H locs → lv_has ls 3 [(0, .ref (ad 12 0 0)), (1, .long y1b60)] → (f_X12_takesNew_B60 σb60 y1b60) = some (r, σ') → zWk p l e ({ frames := 2, cells := 0, slots := 0, locals := 43 } : Room) s m args below meth c A (some (.int r)) (fun t => zG D aC A nl ad σ' t t.heap ∧ (r = 0 ∨ r = 1)) H locs (F0 m 60 ls []) := by
    intro y1b60  σb60 H locs ls hG hS hl hf
    unfold f_X12_takesNew_B60 at hf
    refine lv_aload_n hx hb dX12_takesNew_60 rfl (lv_at hl 0 rfl) ?_
    refine lv_aload_n hx hb dX12_takesNew_61 rfl (lv_at hl 0 rfl) ?_
    refine lv_lload_n hx hb dX12_takesNew_62 rfl (lv_at hl 1 rfl) ?_
    obtain ⟨r9, er9, hf⟩ := zbi hf
    refine z_callV (n := 1) (rest := [.ref (ad 12 0 0)]) (st1 := [.int r9, .ref (ad 12 0 0)]) (c0 := 12) (i0 := 0) (hZ.2.1 (12, 0) (by decide)) (by rfl) S hG hS hZ (fun _ _ h => h) (c_X12_named l D aC zs A nl ad σb60 y1b60 r9 er9) zw_590 zw_591 zw_592 zw_5 zw_593 (by decide +kernel) ⟨rfl, rfl⟩ ⟨(Nat.le_of_ble_eq_true rfl), (Nat.le_of_ble_eq_true rfl)⟩ hl.1 rfl (by rfl) (by rfl) (Nat.le_of_ble_eq_true rfl) dX12_takesNew_63 ⟨Nat.zero_le _, Nat.zero_le _⟩ (fun H locs hz10 hG hS => ?_)
    refine z_putI (c0 := 12) (i0 := 0) (k0 := 41) (T := TX12) S hG hS tyX12 tyX12_ok nmX12 (hZ.2.1 (12, 0) (by decide)) rfl inlX12 (by decide) rfl rfl zw_559 (by decide +kernel) rfl dX12_takesNew_66 (fun H locs hG hS => ?_)
    obtain ⟨σ11, eσ11, hf⟩ := zlt_s hf
    rw [← eσ11] at hG
    refine lv_aload_n hx hb dX12_takesNew_69 rfl (lv_at hl 0 rfl) ?_
    refine lv_dup hx hb dX12_takesNew_70 rfl ?_
    refine z_get (c0 := 12) (i0 := 0) (k0 := 23) (T := TX12) (v := .int (zI σ11 12 0 23)) S hG (hZ.2.1 (12, 0) (by decide)) rfl inlX12 (by decide) rfl zw_511 rfl dX12_takesNew_71 ?_
    refine lv_iconst (v := 1) hx hb dX12_takesNew_74 (by decide) ?_
    refine lv_aload_n hx hb dX12_takesNew_75 rfl (lv_at hl 0 rfl) ?_
    refine z_get (c0 := 12) (i0 := 0) (k0 := 41) (T := TX12) (v := .int (zI σ11 12 0 41)) S hG (hZ.2.1 (12, 0) (by decide)) rfl inlX12 (by decide) rfl zw_559 rfl dX12_takesNew_76 ?_
    refine lv_ishl hx hb dX12_takesNew_79 ?_
    refine lv_ior hx hb dX12_takesNew_80 ?_
    refine z_putI (c0 := 12) (i0 := 0) (k0 := 23) (T := TX12) S hG hS tyX12 tyX12_ok nmX12 (hZ.2.1 (12, 0) (by decide)) rfl inlX12 (by decide) rfl rfl zw_511 (by decide +kernel) rfl dX12_takesNew_81 (fun H locs hG hS => ?_)
    obtain ⟨σ12, eσ12, hf⟩ := zlt_s hf
    rw [← eσ12] at hG
    refine lv_aload_n hx hb dX12_takesNew_84 rfl (lv_at hl 0 rfl) ?_
    refine lv_aload_n hx hb dX12_takesNew_85 rfl (lv_at hl 0 rfl) ?_
    refine z_get (c0 := 12) (i0 := 0) (k0 := 40) (T := TX12) (v := .int (zI σ12 12 0 40)) S hG (hZ.2.1 (12, 0) (by decide)) rfl inlX12 (by decide) rfl zw_550 rfl dX12_takesNew_86 ?_
    refine z_putI (c0 := 12) (i0 := 0) (k0 := 21) (T := TX12) S hG hS tyX12 tyX12_ok nmX12 (hZ.2.1 (12, 0) (by decide)) rfl inlX12 (by decide) rfl rfl zw_512 (by decide +kernel) rfl dX12_takesNew_89 (fun H locs hG hS => ?_)
    obtain ⟨σ13, eσ13, hf⟩ := zlt_s hf
    rw [← eσ13] at hG
    refine lv_iconst (v := 1) hx hb dX12_takesNew_92 (by decide) ?_
    obtain ⟨hq1, hq2⟩ := Prod.mk.inj (Option.some.inj hf)
    subst hq1
    subst hq2
    exact z_zret S hG hS hlocks (Or.inr rfl) hr dX12_takesNew_93
  have hK0 : ∀ (H : Heap) (locs : List Loc) (ls : Array Slot), zG D aC A nl ad σ s H → va_S A s.heap H locs → lv_has ls 3 [(0, .ref (ad 12 0 0))] → f_X12_takesNew σ = some (r, σ') → zWk p l e ({ frames := 2, cells := 0, slots := 0, locals := 43 } : Room) s m args below meth c A (some (.int r)) (fun t => zG D aC A nl ad σ' t t.heap ∧ (r = 0 ∨ r = 1)) H locs (F0 m 0 ls []) := by
    intro H locs ls hG hS hl hf
    unfold f_X12_takesNew at hf
    refine lv_aload_n hx hb dX12_takesNew_0 rfl (lv_at hl 0 rfl) ?_
    obtain ⟨q1, eq1, hf⟩ := zbi hf
    refine z_callV (n := 0) (rest := []) (st1 := [.long q1.1]) (c0 := 12) (i0 := 0) (hZ.2.1 (12, 0) (by decide)) (by rfl) S hG hS hZ (fun _ _ h => h) (c_X12_word_ l D aC zs A nl ad σ q1.1 q1.2 eq1) zw_551 zw_552 zw_553 zw_5 zw_554 (by decide +kernel) ⟨rfl, rfl⟩ ⟨(Nat.le_of_ble_eq_true rfl), (Nat.le_of_ble_eq_true rfl)⟩ hl.1 rfl (by rfl) (by rfl) (Nat.le_of_ble_eq_true rfl) dX12_takesNew_1 ⟨Nat.zero_le _, Nat.zero_le _⟩ (fun H locs hz2 hG hS => ?_)
    refine lv_lstore_n (lv' := [(1, .long q1.1), (0, .ref (ad 12 0 0))]) hx hb dX12_takesNew_4 rfl hl (by decide) rfl (fun ls hl => ?_)
    refine lv_lload_n hx hb dX12_takesNew_5 rfl (lv_at hl 0 rfl) ?_
    refine lv_lconst (v := 0) hx hb dX12_takesNew_6 (by decide) ?_
    refine W.lcmp hx hb dX12_takesNew_7 ?_
    refine lv_if_eq (tgt := 18) hx hb dX12_takesNew_8 (by decide) (fun c3 => ?_) (fun c3 => ?_)
    · have hf := zif_p ((lg_cmp_eq q1.1 0).mp c3) hf
      refine lv_iconst (v := 0) hx hb dX12_takesNew_18 (by decide) ?_
      obtain ⟨hq1, hq2⟩ := Prod.mk.inj (Option.some.inj hf)
      subst hq1
      subst hq2
      exact z_zret S hG hS hlocks (Or.inl rfl) hr dX12_takesNew_19
    · have hf := zif_n (fun h => c3 ((lg_cmp_eq q1.1 0).mpr h)) hf
      refine lv_lload_n hx hb dX12_takesNew_11 rfl (lv_at hl 0 rfl) ?_
      refine z_callS (n := 1) (rest := []) (st1 := [.int (f_X12_isKept q1.1)]) S hG hS hZ (fun _ _ h => h) (c_X12_isKept l D aC zs A nl ad q1.2 q1.1 (f_X12_isKept q1.1) rfl) zw_566 zw_567 zw_5 zw_568 (by decide +kernel) ⟨rfl, rfl⟩ ⟨(Nat.le_of_ble_eq_true rfl), (Nat.le_of_ble_eq_true rfl)⟩ hl.1 rfl (by rfl) (by rfl) (Nat.le_of_ble_eq_true rfl) dX12_takesNew_12 ⟨Nat.zero_le _, Nat.zero_le _⟩ (fun H locs hz4 hG hS => ?_)
      refine lv_if_eq (tgt := 20) hx hb dX12_takesNew_15 (by decide) (fun c5 => ?_) (fun c5 => ?_)
      · have hf := zif_p c5 hf
        refine lv_aload_n hx hb dX12_takesNew_20 rfl (lv_at hl 1 rfl) ?_
        refine lv_lload_n hx hb dX12_takesNew_21 rfl (lv_at hl 0 rfl) ?_
        obtain ⟨r6, er6, hf⟩ := zbi hf
        refine z_callV (n := 1) (rest := []) (st1 := [.int r6]) (c0 := 12) (i0 := 0) (hZ.2.1 (12, 0) (by decide)) (by rfl) S hG hS hZ (fun _ _ h => h) (c_X12_named l D aC zs A nl ad q1.2 q1.1 r6 er6) zw_590 zw_591 zw_592 zw_5 zw_593 (by decide +kernel) ⟨rfl, rfl⟩ ⟨(Nat.le_of_ble_eq_true rfl), (Nat.le_of_ble_eq_true rfl)⟩ hl.1 rfl (by rfl) (by rfl) (Nat.le_of_ble_eq_true rfl) dX12_takesNew_22 ⟨Nat.zero_le _, Nat.zero_le _⟩ (fun H locs hz7 hG hS => ?_)
        refine lv_iconst (v := (-1)) hx hb dX12_takesNew_25 (by decide) ?_
        refine lv_icmp_ne (tgt := 60) hx hb dX12_takesNew_26 (by decide) (fun c8 => ?_) (fun c8 => ?_)
        · have hf := zif_n c8 hf
          exact KJ60 q1.1 q1.2 H locs ls hG hS (lv_sub hl [1, 0] rfl) hf
        · have hf := zif_p c8 hf
          refine lv_aload_n hx hb dX12_takesNew_29 rfl (lv_at hl 1 rfl) ?_
          refine z_get (c0 := 12) (i0 := 0) (k0 := 17) (T := TX12) (v := .int (zI q1.2 12 0 17)) S hG (hZ.2.1 (12, 0) (by decide)) rfl inlX12 (by decide) rfl zw_510 rfl dX12_takesNew_30 ?_
          refine lv_bipush (v := 12) hx hb dX12_takesNew_33 (by decide) ?_
          refine lv_icmp_ne (tgt := 40) hx hb dX12_takesNew_35 (by decide) (fun c14 => ?_) (fun c14 => ?_)
          · have hf := zif_n c14 hf
            refine lv_aload_n hx hb dX12_takesNew_40 rfl (lv_at hl 1 rfl) ?_
            refine lv_dup hx hb dX12_takesNew_41 rfl ?_
            refine z_get (c0 := 12) (i0 := 0) (k0 := 17) (T := TX12) (v := .int (zI q1.2 12 0 17)) S hG (hZ.2.1 (12, 0) (by decide)) rfl inlX12 (by decide) rfl zw_510 rfl dX12_takesNew_42 ?_
            refine lv_iconst (v := 1) hx hb dX12_takesNew_45 (by decide) ?_
            refine lv_iadd hx hb dX12_takesNew_46 ?_
            refine z_putI (c0 := 12) (i0 := 0) (k0 := 17) (T := TX12) S hG hS tyX12 tyX12_ok nmX12 (hZ.2.1 (12, 0) (by decide)) rfl inlX12 (by decide) rfl rfl zw_510 (by decide +kernel) rfl dX12_takesNew_47 (fun H locs hG hS => ?_)
            obtain ⟨σ15, eσ15, hf⟩ := zlt_s hf
            rw [← eσ15] at hG
            refine lv_aload_n hx hb dX12_takesNew_50 rfl (lv_at hl 1 rfl) ?_
            refine z_get (c0 := 12) (i0 := 0) (k0 := 37) (T := TX12) (v := .ref (ad 12 0 38)) S hG (hZ.2.1 (12, 0) (by decide)) rfl inlX12 (by decide) rfl zw_249 rfl dX12_takesNew_51 ?_
            refine lv_aload_n hx hb dX12_takesNew_54 rfl (lv_at hl 1 rfl) ?_
            refine z_get (c0 := 12) (i0 := 0) (k0 := 17) (T := TX12) (v := .int (zI σ15 12 0 17)) S hG (hZ.2.1 (12, 0) (by decide)) rfl inlX12 (by decide) rfl zw_510 rfl dX12_takesNew_55 ?_
            refine lv_lload_n hx hb dX12_takesNew_58 rfl (lv_at hl 0 rfl) ?_
            obtain ⟨i16, hi16, hf⟩ := zbi hf
            refine z_last (c0 := 12) (i0 := 0) (k0 := 37) S hG hS (hZ.2.1 (12, 0) (by decide)) (by decide) rfl hi16 dX12_takesNew_59 (fun H locs hG hS => ?_)
            obtain ⟨σ17, eσ17, hf⟩ := zlt_s hf
            rw [← eσ17] at hG
            exact KJ60 q1.1 σ17 H locs ls hG hS (lv_sub hl [1, 0] rfl) hf
          · have hf := zif_p c14 hf
            refine lv_iconst (v := 0) hx hb dX12_takesNew_38 (by decide) ?_
            obtain ⟨hq1, hq2⟩ := Prod.mk.inj (Option.some.inj hf)
            subst hq1
            subst hq2
            exact z_zret S hG hS hlocks (Or.inl rfl) hr dX12_takesNew_39
      · have hf := zif_n c5 hf
        refine lv_iconst (v := 0) hx hb dX12_takesNew_18 (by decide) ?_
        obtain ⟨hq1, hq2⟩ := Prod.mk.inj (Option.some.inj hf)
        subst hq1
        subst hq2
        exact z_zret S hG hS hlocks (Or.inl rfl) hr dX12_takesNew_19
  exact hK0 _ _ ls hG hS hl hf
set_option maxRecDepth 100000 in
set_option maxHeartbeats 4000000 in
theorem c_X12_takesName (l : Launch) (D : va_G) (aC : Nat → ClassId) (zs : Nat × Nat) (A : Nat → Prop) (nl : zNL) (ad : Nat → Nat → Nat → Nat) (σ : zM)  (r : Int32) (σ' : zM)  (hf : f_X12_takesName σ = some (r, σ')) : Met l yX12_takesName (Cond.code yX12_takesName cX12_takesName 4 (some .boolean) :: wsL_law) ({ frames := 2, cells := 0, slots := 0, locals := 42 } : Room) (zP D aC zs zfM A nl ad σ [.ref (ad 12 0 0)]) (zQ (some (.int r)) (fun t => zG D aC A nl ad σ' t t.heap ∧ (r = 0 ∨ r = 1)) A) 0 0 A := by
  refine Met.ofW (cc := cX12_takesName) (maxL := 4) (ret := (some .boolean)) (by decide) rfl ?_
  intro p e s m args below meth c s₁ B hml hv
  obtain ⟨rfl, hG, hZ⟩ := hv
  have hx := B.exec
  have hb := B.bytes
  have hr := B.returns
  have hts : ∀ w ∈ wsL_law, w.before ([.ref (ad 12 0 0)] : List Value).toArray s = true := fun w h => (atoms_spec B.pre) w (List.mem_cons_of_mem _ h)
  have hown : s.vm.findClass RX12 = some m.cls := findClass_of_methodNamed B.named
  have hlocks := B.notSynchronized
  have S : zS p m c cX12_takesName 4 s ([.ref (ad 12 0 0)] : List Value).toArray RX12 := ⟨hx, hb, hml, hown, hts⟩
  have hS : va_S A s.heap s.heap [] := va_S.rf
  have hl := lv_entry ([.ref (ad 12 0 0)]) (n := 4) (Nat.le_of_ble_eq_true rfl)
  rw [lg_entry_eq]
  generalize (lg_sl ([.ref (ad 12 0 0)]) ++ List.replicate (4 - (lg_sl ([.ref (ad 12 0 0)])).length) Slot.unset).toArray = ls at hl ⊢
  have hl : lv_has ls 4 [(0, .ref (ad 12 0 0))] := hl
  generalize hargs : ([.ref (ad 12 0 0)] : List Value).toArray = args at S hts ⊢
  clear hargs
  have KJ20 : ∀ (t0b20 : Int32)  (σb20 : zM) (H : Heap) (locs : List Loc) (ls : Array Slot), zG D aC A nl ad σb20 s H → va_S A s.heap H locs → lv_has ls 4 [(0, .ref (ad 12 0 0))] → (f_X12_takesName_B20 σb20 t0b20) = some (r, σ') → zWk p l e ({ frames := 2, cells := 0, slots := 0, locals := 42 } : Room) s m args below meth c A (some (.int r)) (fun t => zG D aC A nl ad σ' t t.heap ∧ (r = 0 ∨ r = 1)) H locs (F0 m 20 ls [.int t0b20]) := by
    intro t0b20  σb20 H locs ls hG hS hl hf
    unfold f_X12_takesName_B20 at hf
    refine lv_istore_n (lv' := [(3, .int t0b20), (0, .ref (ad 12 0 0))]) hx hb dX12_takesName_20 rfl hl (by decide) rfl (fun ls hl => ?_)
    refine lv_iload_n hx hb dX12_takesName_21 rfl (lv_at hl 0 rfl) ?_
    refine lv_iconst (v := (-1)) hx hb dX12_takesName_22 (by decide) ?_
    refine lv_icmp_eq (tgt := 37) hx hb dX12_takesName_23 (by decide) (fun c6 => ?_) (fun c6 => ?_)
    · have hf := zif_p c6 hf
      refine lv_iconst (v := 0) hx hb dX12_takesName_37 (by decide) ?_
      obtain ⟨hq1, hq2⟩ := Prod.mk.inj (Option.some.inj hf)
      subst hq1
      subst hq2
      exact z_zret S hG hS hlocks (Or.inl rfl) hr dX12_takesName_38
    · have hf := zif_n c6 hf
      refine lv_aload_n hx hb dX12_takesName_26 rfl (lv_at hl 1 rfl) ?_
      refine z_get (c0 := 12) (i0 := 0) (k0 := 23) (T := TX12) (v := .int (zI σb20 12 0 23)) S hG (hZ.2.1 (12, 0) (by decide)) rfl inlX12 (by decide) rfl zw_511 rfl dX12_takesName_27 ?_
      refine lv_iload_n hx hb dX12_takesName_30 rfl (lv_at hl 0 rfl) ?_
      refine lv_ishr hx hb dX12_takesName_31 ?_
      refine lv_iconst (v := 1) hx hb dX12_takesName_32 (by decide) ?_
      refine lv_iand hx hb dX12_takesName_33 ?_
      refine lv_if_ne (tgt := 39) hx hb dX12_takesName_34 (by decide) (fun c7 => ?_) (fun c7 => ?_)
      · have hf := zif_n c7 hf
        refine lv_aload_n hx hb dX12_takesName_39 rfl (lv_at hl 1 rfl) ?_
        refine lv_iload_n hx hb dX12_takesName_40 rfl (lv_at hl 0 rfl) ?_
        refine z_putI (c0 := 12) (i0 := 0) (k0 := 41) (T := TX12) S hG hS tyX12 tyX12_ok nmX12 (hZ.2.1 (12, 0) (by decide)) rfl inlX12 (by decide) rfl rfl zw_559 (by decide +kernel) rfl dX12_takesName_41 (fun H locs hG hS => ?_)
        obtain ⟨σ8, eσ8, hf⟩ := zlt_s hf
        rw [← eσ8] at hG
        refine lv_aload_n hx hb dX12_takesName_44 rfl (lv_at hl 1 rfl) ?_
        refine lv_aload_n hx hb dX12_takesName_45 rfl (lv_at hl 1 rfl) ?_
        refine z_get (c0 := 12) (i0 := 0) (k0 := 40) (T := TX12) (v := .int (zI σ8 12 0 40)) S hG (hZ.2.1 (12, 0) (by decide)) rfl inlX12 (by decide) rfl zw_550 rfl dX12_takesName_46 ?_
        refine z_putI (c0 := 12) (i0 := 0) (k0 := 21) (T := TX12) S hG hS tyX12 tyX12_ok nmX12 (hZ.2.1 (12, 0) (by decide)) rfl inlX12 (by decide) rfl rfl zw_512 (by decide +kernel) rfl dX12_takesName_49 (fun H locs hG hS => ?_)
        obtain ⟨σ9, eσ9, hf⟩ := zlt_s hf
        rw [← eσ9] at hG
        refine lv_iconst (v := 1) hx hb dX12_takesName_52 (by decide) ?_
        obtain ⟨hq1, hq2⟩ := Prod.mk.inj (Option.some.inj hf)
        subst hq1
        subst hq2
        exact z_zret S hG hS hlocks (Or.inr rfl) hr dX12_takesName_53
      · have hf := zif_p c7 hf
        refine lv_iconst (v := 0) hx hb dX12_takesName_37 (by decide) ?_
        obtain ⟨hq1, hq2⟩ := Prod.mk.inj (Option.some.inj hf)
        subst hq1
        subst hq2
        exact z_zret S hG hS hlocks (Or.inl rfl) hr dX12_takesName_38
  have hK0 : ∀ (H : Heap) (locs : List Loc) (ls : Array Slot), zG D aC A nl ad σ s H → va_S A s.heap H locs → lv_has ls 4 [(0, .ref (ad 12 0 0))] → f_X12_takesName σ = some (r, σ') → zWk p l e ({ frames := 2, cells := 0, slots := 0, locals := 42 } : Room) s m args below meth c A (some (.int r)) (fun t => zG D aC A nl ad σ' t t.heap ∧ (r = 0 ∨ r = 1)) H locs (F0 m 0 ls []) := by
    intro H locs ls hG hS hl hf
    unfold f_X12_takesName at hf
    refine lv_aload_n hx hb dX12_takesName_0 rfl (lv_at hl 0 rfl) ?_
    obtain ⟨q1, eq1, hf⟩ := zbi hf
    refine z_callV (n := 0) (rest := []) (st1 := [.long q1.1]) (c0 := 12) (i0 := 0) (hZ.2.1 (12, 0) (by decide)) (by rfl) S hG hS hZ (fun _ _ h => h) (c_X12_word_ l D aC zs A nl ad σ q1.1 q1.2 eq1) zw_551 zw_552 zw_553 zw_5 zw_554 (by decide +kernel) ⟨rfl, rfl⟩ ⟨(Nat.le_of_ble_eq_true rfl), (Nat.le_of_ble_eq_true rfl)⟩ hl.1 rfl (by rfl) (by rfl) (Nat.le_of_ble_eq_true rfl) dX12_takesName_1 ⟨Nat.zero_le _, Nat.zero_le _⟩ (fun H locs hz2 hG hS => ?_)
    refine lv_lstore_n (lv' := [(1, .long q1.1), (0, .ref (ad 12 0 0))]) hx hb dX12_takesName_4 rfl hl (by decide) rfl (fun ls hl => ?_)
    refine lv_lload_n hx hb dX12_takesName_5 rfl (lv_at hl 0 rfl) ?_
    refine lv_lconst (v := 0) hx hb dX12_takesName_6 (by decide) ?_
    refine W.lcmp hx hb dX12_takesName_7 ?_
    refine lv_if_ne (tgt := 15) hx hb dX12_takesName_8 (by decide) (fun c3 => ?_) (fun c3 => ?_)
    · have hf := zif_n (fun h => c3 ((lg_cmp_eq q1.1 0).mpr h)) hf
      refine lv_aload_n hx hb dX12_takesName_15 rfl (lv_at hl 1 rfl) ?_
      refine lv_lload_n hx hb dX12_takesName_16 rfl (lv_at hl 0 rfl) ?_
      obtain ⟨r4, er4, hf⟩ := zbi hf
      refine z_callV (n := 1) (rest := []) (st1 := [.int r4]) (c0 := 12) (i0 := 0) (hZ.2.1 (12, 0) (by decide)) (by rfl) S hG hS hZ (fun _ _ h => h) (c_X12_named l D aC zs A nl ad q1.2 q1.1 r4 er4) zw_590 zw_591 zw_592 zw_5 zw_593 (by decide +kernel) ⟨rfl, rfl⟩ ⟨(Nat.le_of_ble_eq_true rfl), (Nat.le_of_ble_eq_true rfl)⟩ hl.1 rfl (by rfl) (by rfl) (Nat.le_of_ble_eq_true rfl) dX12_takesName_17 ⟨Nat.zero_le _, Nat.zero_le _⟩ (fun H locs hz5 hG hS => ?_)
      exact KJ20 r4 q1.2 H locs ls hG hS (lv_sub hl [1] rfl) hf
    · have hf := zif_p ((lg_cmp_eq q1.1 0).mp  c3) hf
      refine lv_iconst (v := (-1)) hx hb dX12_takesName_11 (by decide) ?_
      refine lv_goto (tgt := 20) hx hb dX12_takesName_12 (by decide) ?_
      exact KJ20 (-1) q1.2 H locs ls hG hS (lv_sub hl [1] rfl) hf
  exact hK0 _ _ ls hG hS hl hf
set_option maxRecDepth 100000 in
set_option maxHeartbeats 4000000 in
theorem c_X12_node (l : Launch) (D : va_G) (aC : Nat → ClassId) (zs : Nat × Nat) (A : Nat → Prop) (nl : zNL) (ad : Nat → Nat → Nat → Nat) (σ : zM) (x1 : Int32) (r : Int32) (σ' : zM)  (hf : f_X12_node σ x1 = some (r, σ')) : Met l yX12_node (Cond.code yX12_node cX12_node 2 (some .int) :: wsL_law) ({ frames := 0, cells := 0, slots := 0, locals := 0 } : Room) (zP D aC zs zfM A nl ad σ [.ref (ad 12 0 0), .int x1]) (zQ (some (.int r)) (fun t => zG D aC A nl ad σ' t t.heap ∧ True) A) 0 0 A := by
  refine Met.ofW (cc := cX12_node) (maxL := 2) (ret := (some .int)) (by decide) rfl ?_
  intro p e s m args below meth c s₁ B hml hv
  obtain ⟨rfl, hG, hZ⟩ := hv
  have hx := B.exec
  have hb := B.bytes
  have hr := B.returns
  have hts : ∀ w ∈ wsL_law, w.before ([.ref (ad 12 0 0), .int x1] : List Value).toArray s = true := fun w h => (atoms_spec B.pre) w (List.mem_cons_of_mem _ h)
  have hown : s.vm.findClass RX12 = some m.cls := findClass_of_methodNamed B.named
  have hlocks := B.notSynchronized
  have S : zS p m c cX12_node 2 s ([.ref (ad 12 0 0), .int x1] : List Value).toArray RX12 := ⟨hx, hb, hml, hown, hts⟩
  have hS : va_S A s.heap s.heap [] := va_S.rf
  have hl := lv_entry ([.ref (ad 12 0 0), .int x1]) (n := 2) (Nat.le_of_ble_eq_true rfl)
  rw [lg_entry_eq]
  generalize (lg_sl ([.ref (ad 12 0 0), .int x1]) ++ List.replicate (2 - (lg_sl ([.ref (ad 12 0 0), .int x1])).length) Slot.unset).toArray = ls at hl ⊢
  have hl : lv_has ls 2 [(0, .ref (ad 12 0 0)), (1, .int x1)] := hl
  generalize hargs : ([.ref (ad 12 0 0), .int x1] : List Value).toArray = args at S hts ⊢
  clear hargs
  have hK0 : ∀ (H : Heap) (locs : List Loc) (ls : Array Slot), zG D aC A nl ad σ s H → va_S A s.heap H locs → lv_has ls 2 [(0, .ref (ad 12 0 0)), (1, .int x1)] → f_X12_node σ x1 = some (r, σ') → zWk p l e ({ frames := 0, cells := 0, slots := 0, locals := 0 } : Room) s m args below meth c A (some (.int r)) (fun t => zG D aC A nl ad σ' t t.heap ∧ True) H locs (F0 m 0 ls []) := by
    intro H locs ls hG hS hl hf
    unfold f_X12_node at hf
    refine lv_aload_n hx hb dX12_node_0 rfl (lv_at hl 0 rfl) ?_
    refine z_get (c0 := 12) (i0 := 0) (k0 := 31) (T := TX12) (v := .ref (ad 12 0 32)) S hG (hZ.2.1 (12, 0) (by decide)) rfl inlX12 (by decide) rfl zw_243 rfl dX12_node_1 ?_
    refine lv_aload_n hx hb dX12_node_4 rfl (lv_at hl 0 rfl) ?_
    refine z_get (c0 := 12) (i0 := 0) (k0 := 18) (T := TX12) (v := .int (zI σ 12 0 18)) S hG (hZ.2.1 (12, 0) (by decide)) rfl inlX12 (by decide) rfl zw_509 rfl dX12_node_5 ?_
    refine lv_iload_n hx hb dX12_node_8 rfl (lv_at hl 1 rfl) ?_
    obtain ⟨i1, hi1, hf⟩ := zbi hf
    refine z_iast (c0 := 12) (i0 := 0) (k0 := 31) S hG hS (hZ.2.1 (12, 0) (by decide)) (by decide) rfl hi1 dX12_node_9 (fun H locs hG hS => ?_)
    obtain ⟨σ2, eσ2, hf⟩ := zlt_s hf
    rw [← eσ2] at hG
    refine lv_aload_n hx hb dX12_node_10 rfl (lv_at hl 0 rfl) ?_
    refine z_get (c0 := 12) (i0 := 0) (k0 := 32) (T := TX12) (v := .ref (ad 12 0 33)) S hG (hZ.2.1 (12, 0) (by decide)) rfl inlX12 (by decide) rfl zw_244 rfl dX12_node_11 ?_
    refine lv_aload_n hx hb dX12_node_14 rfl (lv_at hl 0 rfl) ?_
    refine z_get (c0 := 12) (i0 := 0) (k0 := 18) (T := TX12) (v := .int (zI σ2 12 0 18)) S hG (hZ.2.1 (12, 0) (by decide)) rfl inlX12 (by decide) rfl zw_509 rfl dX12_node_15 ?_
    refine lv_iconst (v := (-1)) hx hb dX12_node_18 (by decide) ?_
    obtain ⟨i3, hi3, hf⟩ := zbi hf
    refine z_iast (c0 := 12) (i0 := 0) (k0 := 32) S hG hS (hZ.2.1 (12, 0) (by decide)) (by decide) rfl hi3 dX12_node_19 (fun H locs hG hS => ?_)
    obtain ⟨σ4, eσ4, hf⟩ := zlt_s hf
    rw [← eσ4] at hG
    refine lv_aload_n hx hb dX12_node_20 rfl (lv_at hl 0 rfl) ?_
    refine z_get (c0 := 12) (i0 := 0) (k0 := 33) (T := TX12) (v := .ref (ad 12 0 34)) S hG (hZ.2.1 (12, 0) (by decide)) rfl inlX12 (by decide) rfl zw_245 rfl dX12_node_21 ?_
    refine lv_aload_n hx hb dX12_node_24 rfl (lv_at hl 0 rfl) ?_
    refine z_get (c0 := 12) (i0 := 0) (k0 := 18) (T := TX12) (v := .int (zI σ4 12 0 18)) S hG (hZ.2.1 (12, 0) (by decide)) rfl inlX12 (by decide) rfl zw_509 rfl dX12_node_25 ?_
    refine lv_iconst (v := (-1)) hx hb dX12_node_28 (by decide) ?_
    obtain ⟨i5, hi5, hf⟩ := zbi hf
    refine z_iast (c0 := 12) (i0 := 0) (k0 := 33) S hG hS (hZ.2.1 (12, 0) (by decide)) (by decide) rfl hi5 dX12_node_29 (fun H locs hG hS => ?_)
    obtain ⟨σ6, eσ6, hf⟩ := zlt_s hf
    rw [← eσ6] at hG
    refine lv_aload_n hx hb dX12_node_30 rfl (lv_at hl 0 rfl) ?_
    refine lv_dup hx hb dX12_node_31 rfl ?_
    refine z_get (c0 := 12) (i0 := 0) (k0 := 18) (T := TX12) (v := .int (zI σ6 12 0 18)) S hG (hZ.2.1 (12, 0) (by decide)) rfl inlX12 (by decide) rfl zw_509 rfl dX12_node_32 ?_
    refine lv_iconst (v := 1) hx hb dX12_node_35 (by decide) ?_
    refine lv_iadd hx hb dX12_node_36 ?_
    refine z_putI (c0 := 12) (i0 := 0) (k0 := 18) (T := TX12) S hG hS tyX12 tyX12_ok nmX12 (hZ.2.1 (12, 0) (by decide)) rfl inlX12 (by decide) rfl rfl zw_509 (by decide +kernel) rfl dX12_node_37 (fun H locs hG hS => ?_)
    obtain ⟨σ7, eσ7, hf⟩ := zlt_s hf
    rw [← eσ7] at hG
    refine lv_aload_n hx hb dX12_node_40 rfl (lv_at hl 0 rfl) ?_
    refine z_get (c0 := 12) (i0 := 0) (k0 := 18) (T := TX12) (v := .int (zI σ7 12 0 18)) S hG (hZ.2.1 (12, 0) (by decide)) rfl inlX12 (by decide) rfl zw_509 rfl dX12_node_41 ?_
    refine lv_iconst (v := 1) hx hb dX12_node_44 (by decide) ?_
    refine lv_isub hx hb dX12_node_45 ?_
    obtain ⟨hq1, hq2⟩ := Prod.mk.inj (Option.some.inj hf)
    subst hq1
    subst hq2
    exact z_iret S hG hS hlocks trivial hr dX12_node_46
  exact hK0 _ _ ls hG hS hl hf
set_option maxRecDepth 100000 in
set_option maxHeartbeats 4000000 in
theorem c_X12_pairs (l : Launch) (D : va_G) (aC : Nat → ClassId) (zs : Nat × Nat) (A : Nat → Prop) (nl : zNL) (ad : Nat → Nat → Nat → Nat) (σ : zM) (x1 : Int32) (x2 : Int32) (x3 : Int64) (r : Int32) (σ' : zM)  (hf : f_X12_pairs σ x1 x2 x3 = some (r, σ')) : Met l yX12_pairs (Cond.code yX12_pairs cX12_pairs 5 (some .boolean) :: wsL_law) ({ frames := 3, cells := 0, slots := 0, locals := 65 } : Room) (zP D aC zs zfM A nl ad σ [.ref (ad 12 0 0), .int x1, .int x2, .long x3]) (zQ (some (.int r)) (fun t => zG D aC A nl ad σ' t t.heap ∧ (r = 0 ∨ r = 1)) A) 0 0 A := by
  refine Met.ofW (cc := cX12_pairs) (maxL := 5) (ret := (some .boolean)) (by decide) rfl ?_
  intro p e s m args below meth c s₁ B hml hv
  obtain ⟨rfl, hG, hZ⟩ := hv
  have hx := B.exec
  have hb := B.bytes
  have hr := B.returns
  have hts : ∀ w ∈ wsL_law, w.before ([.ref (ad 12 0 0), .int x1, .int x2, .long x3] : List Value).toArray s = true := fun w h => (atoms_spec B.pre) w (List.mem_cons_of_mem _ h)
  have hown : s.vm.findClass RX12 = some m.cls := findClass_of_methodNamed B.named
  have hlocks := B.notSynchronized
  have S : zS p m c cX12_pairs 5 s ([.ref (ad 12 0 0), .int x1, .int x2, .long x3] : List Value).toArray RX12 := ⟨hx, hb, hml, hown, hts⟩
  have hS : va_S A s.heap s.heap [] := va_S.rf
  have hl := lv_entry ([.ref (ad 12 0 0), .int x1, .int x2, .long x3]) (n := 5) (Nat.le_of_ble_eq_true rfl)
  rw [lg_entry_eq]
  generalize (lg_sl ([.ref (ad 12 0 0), .int x1, .int x2, .long x3]) ++ List.replicate (5 - (lg_sl ([.ref (ad 12 0 0), .int x1, .int x2, .long x3])).length) Slot.unset).toArray = ls at hl ⊢
  have hl : lv_has ls 5 [(0, .ref (ad 12 0 0)), (1, .int x1), (2, .int x2), (3, .long x3)] := hl
  generalize hargs : ([.ref (ad 12 0 0), .int x1, .int x2, .long x3] : List Value).toArray = args at S hts ⊢
  clear hargs
  have hK0 : ∀ (H : Heap) (locs : List Loc) (ls : Array Slot), zG D aC A nl ad σ s H → va_S A s.heap H locs → lv_has ls 5 [(0, .ref (ad 12 0 0)), (1, .int x1), (2, .int x2), (3, .long x3)] → f_X12_pairs σ x1 x2 x3 = some (r, σ') → zWk p l e ({ frames := 3, cells := 0, slots := 0, locals := 65 } : Room) s m args below meth c A (some (.int r)) (fun t => zG D aC A nl ad σ' t t.heap ∧ (r = 0 ∨ r = 1)) H locs (F0 m 0 ls []) := by
    intro H locs ls hG hS hl hf
    unfold f_X12_pairs at hf
    refine lv_aload_n hx hb dX12_pairs_0 rfl (lv_at hl 0 rfl) ?_
    refine z_get (c0 := 12) (i0 := 0) (k0 := 27) (T := TX12) (v := .ref (ad 12 0 28)) S hG (hZ.2.1 (12, 0) (by decide)) rfl inlX12 (by decide) rfl zw_239 rfl dX12_pairs_1 ?_
    refine lv_iload_n hx hb dX12_pairs_4 rfl (lv_at hl 1 rfl) ?_
    refine lv_iload_n hx hb dX12_pairs_5 rfl (lv_at hl 2 rfl) ?_
    obtain ⟨i1, hi1, hf⟩ := zbi hf
    refine z_iast (c0 := 12) (i0 := 0) (k0 := 27) S hG hS (hZ.2.1 (12, 0) (by decide)) (by decide) rfl hi1 dX12_pairs_6 (fun H locs hG hS => ?_)
    obtain ⟨σ2, eσ2, hf⟩ := zlt_s hf
    rw [← eσ2] at hG
    refine lv_aload_n hx hb dX12_pairs_7 rfl (lv_at hl 0 rfl) ?_
    obtain ⟨q3, eq3, hf⟩ := zbi hf
    refine z_callV (n := 0) (rest := []) (st1 := [.int q3.1]) (c0 := 12) (i0 := 0) (hZ.2.1 (12, 0) (by decide)) (by rfl) S hG hS hZ (fun _ _ h => h) (c_X12_takesName l D aC zs A nl ad σ2 q3.1 q3.2 eq3) zw_606 zw_607 zw_608 zw_5 zw_609 (by decide +kernel) ⟨rfl, rfl⟩ ⟨(Nat.le_of_ble_eq_true rfl), (Nat.le_of_ble_eq_true rfl)⟩ hl.1 rfl (by rfl) (by rfl) (Nat.le_of_ble_eq_true rfl) dX12_pairs_8 ⟨Nat.zero_le _, Nat.zero_le _⟩ (fun H locs hz4 hG hS => ?_)
    refine lv_if_ne (tgt := 16) hx hb dX12_pairs_11 (by decide) (fun c5 => ?_) (fun c5 => ?_)
    · have hf := zif_n c5 hf
      refine lv_aload_n hx hb dX12_pairs_16 rfl (lv_at hl 0 rfl) ?_
      refine z_get (c0 := 12) (i0 := 0) (k0 := 28) (T := TX12) (v := .ref (ad 12 0 29)) S hG (hZ.2.1 (12, 0) (by decide)) rfl inlX12 (by decide) rfl zw_240 rfl dX12_pairs_17 ?_
      refine lv_iload_n hx hb dX12_pairs_20 rfl (lv_at hl 1 rfl) ?_
      refine lv_aload_n hx hb dX12_pairs_21 rfl (lv_at hl 0 rfl) ?_
      refine z_get (c0 := 12) (i0 := 0) (k0 := 41) (T := TX12) (v := .int (zI q3.2 12 0 41)) S hG (hZ.2.1 (12, 0) (by decide)) rfl inlX12 (by decide) rfl zw_559 rfl dX12_pairs_22 ?_
      obtain ⟨i6, hi6, hf⟩ := zbi hf
      refine z_iast (c0 := 12) (i0 := 0) (k0 := 28) S hG hS (hZ.2.1 (12, 0) (by decide)) (by decide) rfl hi6 dX12_pairs_25 (fun H locs hG hS => ?_)
      obtain ⟨σ7, eσ7, hf⟩ := zlt_s hf
      rw [← eσ7] at hG
      refine lv_aload_n hx hb dX12_pairs_26 rfl (lv_at hl 0 rfl) ?_
      obtain ⟨q8, eq8, hf⟩ := zbi hf
      refine z_callV (n := 0) (rest := []) (st1 := [.int q8.1]) (c0 := 12) (i0 := 0) (hZ.2.1 (12, 0) (by decide)) (by rfl) S hG hS hZ (fun _ _ h => h) (c_X12_takesName l D aC zs A nl ad σ7 q8.1 q8.2 eq8) zw_606 zw_607 zw_608 zw_5 zw_609 (by decide +kernel) ⟨rfl, rfl⟩ ⟨(Nat.le_of_ble_eq_true rfl), (Nat.le_of_ble_eq_true rfl)⟩ hl.1 rfl (by rfl) (by rfl) (Nat.le_of_ble_eq_true rfl) dX12_pairs_27 ⟨Nat.zero_le _, Nat.zero_le _⟩ (fun H locs hz9 hG hS => ?_)
      refine lv_if_ne (tgt := 35) hx hb dX12_pairs_30 (by decide) (fun c10 => ?_) (fun c10 => ?_)
      · have hf := zif_n c10 hf
        refine lv_aload_n hx hb dX12_pairs_35 rfl (lv_at hl 0 rfl) ?_
        refine z_get (c0 := 12) (i0 := 0) (k0 := 29) (T := TX12) (v := .ref (ad 12 0 30)) S hG (hZ.2.1 (12, 0) (by decide)) rfl inlX12 (by decide) rfl zw_241 rfl dX12_pairs_36 ?_
        refine lv_iload_n hx hb dX12_pairs_39 rfl (lv_at hl 1 rfl) ?_
        refine lv_aload_n hx hb dX12_pairs_40 rfl (lv_at hl 0 rfl) ?_
        refine z_get (c0 := 12) (i0 := 0) (k0 := 41) (T := TX12) (v := .int (zI q8.2 12 0 41)) S hG (hZ.2.1 (12, 0) (by decide)) rfl inlX12 (by decide) rfl zw_559 rfl dX12_pairs_41 ?_
        obtain ⟨i11, hi11, hf⟩ := zbi hf
        refine z_iast (c0 := 12) (i0 := 0) (k0 := 29) S hG hS (hZ.2.1 (12, 0) (by decide)) (by decide) rfl hi11 dX12_pairs_44 (fun H locs hG hS => ?_)
        obtain ⟨σ12, eσ12, hf⟩ := zlt_s hf
        rw [← eσ12] at hG
        refine lv_aload_n hx hb dX12_pairs_45 rfl (lv_at hl 0 rfl) ?_
        refine lv_lload_n hx hb dX12_pairs_46 rfl (lv_at hl 3 rfl) ?_
        obtain ⟨q13, eq13, hf⟩ := zbi hf
        refine z_callV (n := 1) (rest := []) (st1 := [.int q13.1]) (c0 := 12) (i0 := 0) (hZ.2.1 (12, 0) (by decide)) (by rfl) S hG hS hZ (fun _ _ h => h) (c_X12_takes l D aC zs A nl ad σ12 x3 q13.1 q13.2 eq13) zw_546 zw_547 zw_548 zw_5 zw_549 (by decide +kernel) ⟨rfl, rfl⟩ ⟨(Nat.le_of_ble_eq_true rfl), (Nat.le_of_ble_eq_true rfl)⟩ hl.1 rfl (by rfl) (by rfl) (Nat.le_of_ble_eq_true rfl) dX12_pairs_47 ⟨Nat.zero_le _, Nat.zero_le _⟩ (fun H locs hz14 hG hS => ?_)
        refine lv_if_eq (tgt := 60) hx hb dX12_pairs_50 (by decide) (fun c15 => ?_) (fun c15 => ?_)
        · have hf := zif_p c15 hf
          refine lv_iconst (v := 0) hx hb dX12_pairs_60 (by decide) ?_
          obtain ⟨hq1, hq2⟩ := Prod.mk.inj (Option.some.inj hf)
          subst hq1
          subst hq2
          exact z_zret S hG hS hlocks (Or.inl rfl) hr dX12_pairs_61
        · have hf := zif_n c15 hf
          refine lv_aload_n hx hb dX12_pairs_53 rfl (lv_at hl 0 rfl) ?_
          obtain ⟨q16, eq16, hf⟩ := zbi hf
          refine z_callV (n := 0) (rest := []) (st1 := [.int q16.1]) (c0 := 12) (i0 := 0) (hZ.2.1 (12, 0) (by decide)) (by rfl) S hG hS hZ (fun _ _ h => h) (c_X12_takesPlain l D aC zs A nl ad q13.2 q16.1 q16.2 eq16) zw_594 zw_595 zw_596 zw_5 zw_597 (by decide +kernel) ⟨rfl, rfl⟩ ⟨(Nat.le_of_ble_eq_true rfl), (Nat.le_of_ble_eq_true rfl)⟩ hl.1 rfl (by rfl) (by rfl) (Nat.le_of_ble_eq_true rfl) dX12_pairs_54 ⟨Nat.zero_le _, Nat.zero_le _⟩ (fun H locs hz17 hG hS => ?_)
          refine lv_if_ne (tgt := 62) hx hb dX12_pairs_57 (by decide) (fun c18 => ?_) (fun c18 => ?_)
          · have hf := zif_n c18 hf
            refine lv_aload_n hx hb dX12_pairs_62 rfl (lv_at hl 0 rfl) ?_
            refine z_get (c0 := 12) (i0 := 0) (k0 := 30) (T := TX12) (v := .ref (ad 12 0 31)) S hG (hZ.2.1 (12, 0) (by decide)) rfl inlX12 (by decide) rfl zw_242 rfl dX12_pairs_63 ?_
            refine lv_iload_n hx hb dX12_pairs_66 rfl (lv_at hl 1 rfl) ?_
            refine lv_aload_n hx hb dX12_pairs_67 rfl (lv_at hl 0 rfl) ?_
            refine z_get (c0 := 12) (i0 := 0) (k0 := 41) (T := TX12) (v := .int (zI q16.2 12 0 41)) S hG (hZ.2.1 (12, 0) (by decide)) rfl inlX12 (by decide) rfl zw_559 rfl dX12_pairs_68 ?_
            obtain ⟨i19, hi19, hf⟩ := zbi hf
            refine z_iast (c0 := 12) (i0 := 0) (k0 := 30) S hG hS (hZ.2.1 (12, 0) (by decide)) (by decide) rfl hi19 dX12_pairs_71 (fun H locs hG hS => ?_)
            obtain ⟨σ20, eσ20, hf⟩ := zlt_s hf
            rw [← eσ20] at hG
            refine lv_iconst (v := 1) hx hb dX12_pairs_72 (by decide) ?_
            obtain ⟨hq1, hq2⟩ := Prod.mk.inj (Option.some.inj hf)
            subst hq1
            subst hq2
            exact z_zret S hG hS hlocks (Or.inr rfl) hr dX12_pairs_73
          · have hf := zif_p c18 hf
            refine lv_iconst (v := 0) hx hb dX12_pairs_60 (by decide) ?_
            obtain ⟨hq1, hq2⟩ := Prod.mk.inj (Option.some.inj hf)
            subst hq1
            subst hq2
            exact z_zret S hG hS hlocks (Or.inl rfl) hr dX12_pairs_61
      · have hf := zif_p c10 hf
        refine lv_iconst (v := 0) hx hb dX12_pairs_33 (by decide) ?_
        obtain ⟨hq1, hq2⟩ := Prod.mk.inj (Option.some.inj hf)
        subst hq1
        subst hq2
        exact z_zret S hG hS hlocks (Or.inl rfl) hr dX12_pairs_34
    · have hf := zif_p c5 hf
      refine lv_iconst (v := 0) hx hb dX12_pairs_14 (by decide) ?_
      obtain ⟨hq1, hq2⟩ := Prod.mk.inj (Option.some.inj hf)
      subst hq1
      subst hq2
      exact z_zret S hG hS hlocks (Or.inl rfl) hr dX12_pairs_15
  exact hK0 _ _ ls hG hS hl hf
set_option maxRecDepth 100000 in
set_option maxHeartbeats 4000000 in
theorem c_X12_plain (l : Launch) (D : va_G) (aC : Nat → ClassId) (zs : Nat × Nat) (A : Nat → Prop) (nl : zNL) (ad : Nat → Nat → Nat → Nat) (σ : zM) (x1 : Int32) (x2 : Int32) (x3 : Int32) (x4 : Int32) (r : Int32) (σ' : zM)  (hf : f_X12_plain σ x1 x2 x3 x4 = some (r, σ')) : Met l yX12_plain (Cond.code yX12_plain cX12_plain 5 (some .boolean) :: wsL_law) ({ frames := 2, cells := 0, slots := 0, locals := 45 } : Room) (zP D aC zs zfM A nl ad σ [.ref (ad 12 0 0), .int x1, .int x2, .int x3, .int x4]) (zQ (some (.int r)) (fun t => zG D aC A nl ad σ' t t.heap ∧ (r = 0 ∨ r = 1)) A) 0 0 A := by
  refine Met.ofW (cc := cX12_plain) (maxL := 5) (ret := (some .boolean)) (by decide) rfl ?_
  intro p e s m args below meth c s₁ B hml hv
  obtain ⟨rfl, hG, hZ⟩ := hv
  have hx := B.exec
  have hb := B.bytes
  have hr := B.returns
  have hts : ∀ w ∈ wsL_law, w.before ([.ref (ad 12 0 0), .int x1, .int x2, .int x3, .int x4] : List Value).toArray s = true := fun w h => (atoms_spec B.pre) w (List.mem_cons_of_mem _ h)
  have hown : s.vm.findClass RX12 = some m.cls := findClass_of_methodNamed B.named
  have hlocks := B.notSynchronized
  have S : zS p m c cX12_plain 5 s ([.ref (ad 12 0 0), .int x1, .int x2, .int x3, .int x4] : List Value).toArray RX12 := ⟨hx, hb, hml, hown, hts⟩
  have hS : va_S A s.heap s.heap [] := va_S.rf
  have hl := lv_entry ([.ref (ad 12 0 0), .int x1, .int x2, .int x3, .int x4]) (n := 5) (Nat.le_of_ble_eq_true rfl)
  rw [lg_entry_eq]
  generalize (lg_sl ([.ref (ad 12 0 0), .int x1, .int x2, .int x3, .int x4]) ++ List.replicate (5 - (lg_sl ([.ref (ad 12 0 0), .int x1, .int x2, .int x3, .int x4])).length) Slot.unset).toArray = ls at hl ⊢
  have hl : lv_has ls 5 [(0, .ref (ad 12 0 0)), (1, .int x1), (2, .int x2), (3, .int x3), (4, .int x4)] := hl
  generalize hargs : ([.ref (ad 12 0 0), .int x1, .int x2, .int x3, .int x4] : List Value).toArray = args at S hts ⊢
  clear hargs
  have hK0 : ∀ (H : Heap) (locs : List Loc) (ls : Array Slot), zG D aC A nl ad σ s H → va_S A s.heap H locs → lv_has ls 5 [(0, .ref (ad 12 0 0)), (1, .int x1), (2, .int x2), (3, .int x3), (4, .int x4)] → f_X12_plain σ x1 x2 x3 x4 = some (r, σ') → zWk p l e ({ frames := 2, cells := 0, slots := 0, locals := 45 } : Room) s m args below meth c A (some (.int r)) (fun t => zG D aC A nl ad σ' t t.heap ∧ (r = 0 ∨ r = 1)) H locs (F0 m 0 ls []) := by
    intro H locs ls hG hS hl hf
    unfold f_X12_plain at hf
    refine lv_aload_n hx hb dX12_plain_0 rfl (lv_at hl 0 rfl) ?_
    refine z_get (c0 := 12) (i0 := 0) (k0 := 27) (T := TX12) (v := .ref (ad 12 0 28)) S hG (hZ.2.1 (12, 0) (by decide)) rfl inlX12 (by decide) rfl zw_239 rfl dX12_plain_1 ?_
    refine lv_iload_n hx hb dX12_plain_4 rfl (lv_at hl 1 rfl) ?_
    refine lv_iload_n hx hb dX12_plain_5 rfl (lv_at hl 2 rfl) ?_
    obtain ⟨i1, hi1, hf⟩ := zbi hf
    refine z_iast (c0 := 12) (i0 := 0) (k0 := 27) S hG hS (hZ.2.1 (12, 0) (by decide)) (by decide) rfl hi1 dX12_plain_6 (fun H locs hG hS => ?_)
    obtain ⟨σ2, eσ2, hf⟩ := zlt_s hf
    rw [← eσ2] at hG
    refine lv_aload_n hx hb dX12_plain_7 rfl (lv_at hl 0 rfl) ?_
    refine lv_iload_n hx hb dX12_plain_8 rfl (lv_at hl 3 rfl) ?_
    refine lv_iload hx hb dX12_plain_9 (lv_at hl 4 rfl) ?_
    obtain ⟨q3, eq3, hf⟩ := zbi hf
    refine z_callV (n := 2) (rest := []) (st1 := [.int q3.1]) (c0 := 12) (i0 := 0) (hZ.2.1 (12, 0) (by decide)) (by rfl) S hG hS hZ (fun _ _ h => h) (c_X12_takesNumber l D aC zs A nl ad σ2 x3 x4 q3.1 q3.2 eq3) zw_598 zw_599 zw_600 zw_5 zw_601 (by decide +kernel) ⟨rfl, rfl⟩ ⟨(Nat.le_of_ble_eq_true rfl), (Nat.le_of_ble_eq_true rfl)⟩ hl.1 rfl (by rfl) (by rfl) (Nat.le_of_ble_eq_true rfl) dX12_plain_11 ⟨Nat.zero_le _, Nat.zero_le _⟩ (fun H locs hz4 hG hS => ?_)
    refine lv_if_ne (tgt := 19) hx hb dX12_plain_14 (by decide) (fun c5 => ?_) (fun c5 => ?_)
    · have hf := zif_n c5 hf
      refine lv_aload_n hx hb dX12_plain_19 rfl (lv_at hl 0 rfl) ?_
      refine z_get (c0 := 12) (i0 := 0) (k0 := 28) (T := TX12) (v := .ref (ad 12 0 29)) S hG (hZ.2.1 (12, 0) (by decide)) rfl inlX12 (by decide) rfl zw_240 rfl dX12_plain_20 ?_
      refine lv_iload_n hx hb dX12_plain_23 rfl (lv_at hl 1 rfl) ?_
      refine lv_aload_n hx hb dX12_plain_24 rfl (lv_at hl 0 rfl) ?_
      refine z_get (c0 := 12) (i0 := 0) (k0 := 41) (T := TX12) (v := .int (zI q3.2 12 0 41)) S hG (hZ.2.1 (12, 0) (by decide)) rfl inlX12 (by decide) rfl zw_559 rfl dX12_plain_25 ?_
      obtain ⟨i6, hi6, hf⟩ := zbi hf
      refine z_iast (c0 := 12) (i0 := 0) (k0 := 28) S hG hS (hZ.2.1 (12, 0) (by decide)) (by decide) rfl hi6 dX12_plain_28 (fun H locs hG hS => ?_)
      obtain ⟨σ7, eσ7, hf⟩ := zlt_s hf
      rw [← eσ7] at hG
      refine lv_iconst (v := 1) hx hb dX12_plain_29 (by decide) ?_
      obtain ⟨hq1, hq2⟩ := Prod.mk.inj (Option.some.inj hf)
      subst hq1
      subst hq2
      exact z_zret S hG hS hlocks (Or.inr rfl) hr dX12_plain_30
    · have hf := zif_p c5 hf
      refine lv_iconst (v := 0) hx hb dX12_plain_17 (by decide) ?_
      obtain ⟨hq1, hq2⟩ := Prod.mk.inj (Option.some.inj hf)
      subst hq1
      subst hq2
      exact z_zret S hG hS hlocks (Or.inl rfl) hr dX12_plain_18
  exact hK0 _ _ ls hG hS hl hf
set_option maxRecDepth 100000 in
set_option maxHeartbeats 4000000 in
theorem c_X12_rooms (l : Launch) (D : va_G) (aC : Nat → ClassId) (zs : Nat × Nat) (A : Nat → Prop) (nl : zNL) (ad : Nat → Nat → Nat → Nat) (σ : zM) (x1 : Int32) (r : Int32) (σ' : zM)  (hf : f_X12_rooms σ x1 = some (r, σ')) : Met l yX12_rooms (Cond.code yX12_rooms cX12_rooms 2 (some .boolean) :: wsL_law) ({ frames := 3, cells := 0, slots := 0, locals := 65 } : Room) (zP D aC zs zfM A nl ad σ [.ref (ad 12 0 0), .int x1]) (zQ (some (.int r)) (fun t => zG D aC A nl ad σ' t t.heap ∧ (r = 0 ∨ r = 1)) A) 0 0 A := by
  refine Met.ofW (cc := cX12_rooms) (maxL := 2) (ret := (some .boolean)) (by decide) rfl ?_
  intro p e s m args below meth c s₁ B hml hv
  obtain ⟨rfl, hG, hZ⟩ := hv
  have hx := B.exec
  have hb := B.bytes
  have hr := B.returns
  have hts : ∀ w ∈ wsL_law, w.before ([.ref (ad 12 0 0), .int x1] : List Value).toArray s = true := fun w h => (atoms_spec B.pre) w (List.mem_cons_of_mem _ h)
  have hown : s.vm.findClass RX12 = some m.cls := findClass_of_methodNamed B.named
  have hlocks := B.notSynchronized
  have S : zS p m c cX12_rooms 2 s ([.ref (ad 12 0 0), .int x1] : List Value).toArray RX12 := ⟨hx, hb, hml, hown, hts⟩
  have hS : va_S A s.heap s.heap [] := va_S.rf
  have hl := lv_entry ([.ref (ad 12 0 0), .int x1]) (n := 2) (Nat.le_of_ble_eq_true rfl)
  rw [lg_entry_eq]
  generalize (lg_sl ([.ref (ad 12 0 0), .int x1]) ++ List.replicate (2 - (lg_sl ([.ref (ad 12 0 0), .int x1])).length) Slot.unset).toArray = ls at hl ⊢
  have hl : lv_has ls 2 [(0, .ref (ad 12 0 0)), (1, .int x1)] := hl
  generalize hargs : ([.ref (ad 12 0 0), .int x1] : List Value).toArray = args at S hts ⊢
  clear hargs
  have hK0 : ∀ (H : Heap) (locs : List Loc) (ls : Array Slot), zG D aC A nl ad σ s H → va_S A s.heap H locs → lv_has ls 2 [(0, .ref (ad 12 0 0)), (1, .int x1)] → f_X12_rooms σ x1 = some (r, σ') → zWk p l e ({ frames := 3, cells := 0, slots := 0, locals := 65 } : Room) s m args below meth c A (some (.int r)) (fun t => zG D aC A nl ad σ' t t.heap ∧ (r = 0 ∨ r = 1)) H locs (F0 m 0 ls []) := by
    intro H locs ls hG hS hl hf
    unfold f_X12_rooms at hf
    refine lv_aload_n hx hb dX12_rooms_0 rfl (lv_at hl 0 rfl) ?_
    refine z_get (c0 := 12) (i0 := 0) (k0 := 27) (T := TX12) (v := .ref (ad 12 0 28)) S hG (hZ.2.1 (12, 0) (by decide)) rfl inlX12 (by decide) rfl zw_239 rfl dX12_rooms_1 ?_
    refine lv_iload_n hx hb dX12_rooms_4 rfl (lv_at hl 1 rfl) ?_
    refine lv_bipush (v := 11) hx hb dX12_rooms_5 (by decide) ?_
    obtain ⟨i1, hi1, hf⟩ := zbi hf
    refine z_iast (c0 := 12) (i0 := 0) (k0 := 27) S hG hS (hZ.2.1 (12, 0) (by decide)) (by decide) rfl hi1 dX12_rooms_7 (fun H locs hG hS => ?_)
    obtain ⟨σ2, eσ2, hf⟩ := zlt_s hf
    rw [← eσ2] at hG
    refine lv_aload_n hx hb dX12_rooms_8 rfl (lv_at hl 0 rfl) ?_
    obtain ⟨q3, eq3, hf⟩ := zbi hf
    refine z_callV (n := 0) (rest := []) (st1 := [.int q3.1]) (c0 := 12) (i0 := 0) (hZ.2.1 (12, 0) (by decide)) (by rfl) S hG hS hZ (fun _ _ h => h) (c_X12_takesNew l D aC zs A nl ad σ2 q3.1 q3.2 eq3) zw_562 zw_563 zw_564 zw_5 zw_565 (by decide +kernel) ⟨rfl, rfl⟩ ⟨(Nat.le_of_ble_eq_true rfl), (Nat.le_of_ble_eq_true rfl)⟩ hl.1 rfl (by rfl) (by rfl) (Nat.le_of_ble_eq_true rfl) dX12_rooms_9 ⟨Nat.zero_le _, Nat.zero_le _⟩ (fun H locs hz4 hG hS => ?_)
    refine lv_if_ne (tgt := 17) hx hb dX12_rooms_12 (by decide) (fun c5 => ?_) (fun c5 => ?_)
    · have hf := zif_n c5 hf
      refine lv_aload_n hx hb dX12_rooms_17 rfl (lv_at hl 0 rfl) ?_
      refine z_get (c0 := 12) (i0 := 0) (k0 := 28) (T := TX12) (v := .ref (ad 12 0 29)) S hG (hZ.2.1 (12, 0) (by decide)) rfl inlX12 (by decide) rfl zw_240 rfl dX12_rooms_18 ?_
      refine lv_iload_n hx hb dX12_rooms_21 rfl (lv_at hl 1 rfl) ?_
      refine lv_aload_n hx hb dX12_rooms_22 rfl (lv_at hl 0 rfl) ?_
      refine z_get (c0 := 12) (i0 := 0) (k0 := 41) (T := TX12) (v := .int (zI q3.2 12 0 41)) S hG (hZ.2.1 (12, 0) (by decide)) rfl inlX12 (by decide) rfl zw_559 rfl dX12_rooms_23 ?_
      obtain ⟨i6, hi6, hf⟩ := zbi hf
      refine z_iast (c0 := 12) (i0 := 0) (k0 := 28) S hG hS (hZ.2.1 (12, 0) (by decide)) (by decide) rfl hi6 dX12_rooms_26 (fun H locs hG hS => ?_)
      obtain ⟨σ7, eσ7, hf⟩ := zlt_s hf
      rw [← eσ7] at hG
      refine lv_aload_n hx hb dX12_rooms_27 rfl (lv_at hl 0 rfl) ?_
      refine lv_ldc2 (v := 465557353332) hx hb hown (hts _ zw_560) dX12_rooms_28 ?_
      obtain ⟨q8, eq8, hf⟩ := zbi hf
      refine z_callV (n := 1) (rest := []) (st1 := [.int q8.1]) (c0 := 12) (i0 := 0) (hZ.2.1 (12, 0) (by decide)) (by rfl) S hG hS hZ (fun _ _ h => h) (c_X12_takes l D aC zs A nl ad σ7 465557353332 q8.1 q8.2 eq8) zw_546 zw_547 zw_548 zw_5 zw_549 (by decide +kernel) ⟨rfl, rfl⟩ ⟨(Nat.le_of_ble_eq_true rfl), (Nat.le_of_ble_eq_true rfl)⟩ hl.1 rfl (by rfl) (by rfl) (Nat.le_of_ble_eq_true rfl) dX12_rooms_31 ⟨Nat.zero_le _, Nat.zero_le _⟩ (fun H locs hz9 hG hS => ?_)
      refine lv_if_eq (tgt := 44) hx hb dX12_rooms_34 (by decide) (fun c10 => ?_) (fun c10 => ?_)
      · have hf := zif_p c10 hf
        refine lv_iconst (v := 0) hx hb dX12_rooms_44 (by decide) ?_
        obtain ⟨hq1, hq2⟩ := Prod.mk.inj (Option.some.inj hf)
        subst hq1
        subst hq2
        exact z_zret S hG hS hlocks (Or.inl rfl) hr dX12_rooms_45
      · have hf := zif_n c10 hf
        refine lv_aload_n hx hb dX12_rooms_37 rfl (lv_at hl 0 rfl) ?_
        obtain ⟨q11, eq11, hf⟩ := zbi hf
        refine z_callV (n := 0) (rest := []) (st1 := [.int q11.1]) (c0 := 12) (i0 := 0) (hZ.2.1 (12, 0) (by decide)) (by rfl) S hG hS hZ (fun _ _ h => h) (c_X12_takesPlain l D aC zs A nl ad q8.2 q11.1 q11.2 eq11) zw_594 zw_595 zw_596 zw_5 zw_597 (by decide +kernel) ⟨rfl, rfl⟩ ⟨(Nat.le_of_ble_eq_true rfl), (Nat.le_of_ble_eq_true rfl)⟩ hl.1 rfl (by rfl) (by rfl) (Nat.le_of_ble_eq_true rfl) dX12_rooms_38 ⟨Nat.zero_le _, Nat.zero_le _⟩ (fun H locs hz12 hG hS => ?_)
        refine lv_if_ne (tgt := 46) hx hb dX12_rooms_41 (by decide) (fun c13 => ?_) (fun c13 => ?_)
        · have hf := zif_n c13 hf
          refine lv_aload_n hx hb dX12_rooms_46 rfl (lv_at hl 0 rfl) ?_
          refine z_get (c0 := 12) (i0 := 0) (k0 := 29) (T := TX12) (v := .ref (ad 12 0 30)) S hG (hZ.2.1 (12, 0) (by decide)) rfl inlX12 (by decide) rfl zw_241 rfl dX12_rooms_47 ?_
          refine lv_iload_n hx hb dX12_rooms_50 rfl (lv_at hl 1 rfl) ?_
          refine lv_aload_n hx hb dX12_rooms_51 rfl (lv_at hl 0 rfl) ?_
          refine z_get (c0 := 12) (i0 := 0) (k0 := 41) (T := TX12) (v := .int (zI q11.2 12 0 41)) S hG (hZ.2.1 (12, 0) (by decide)) rfl inlX12 (by decide) rfl zw_559 rfl dX12_rooms_52 ?_
          obtain ⟨i14, hi14, hf⟩ := zbi hf
          refine z_iast (c0 := 12) (i0 := 0) (k0 := 29) S hG hS (hZ.2.1 (12, 0) (by decide)) (by decide) rfl hi14 dX12_rooms_55 (fun H locs hG hS => ?_)
          obtain ⟨σ15, eσ15, hf⟩ := zlt_s hf
          rw [← eσ15] at hG
          refine lv_aload_n hx hb dX12_rooms_56 rfl (lv_at hl 0 rfl) ?_
          refine z_get (c0 := 12) (i0 := 0) (k0 := 30) (T := TX12) (v := .ref (ad 12 0 31)) S hG (hZ.2.1 (12, 0) (by decide)) rfl inlX12 (by decide) rfl zw_242 rfl dX12_rooms_57 ?_
          refine lv_iload_n hx hb dX12_rooms_60 rfl (lv_at hl 1 rfl) ?_
          refine lv_iconst (v := 0) hx hb dX12_rooms_61 (by decide) ?_
          obtain ⟨i16, hi16, hf⟩ := zbi hf
          refine z_iast (c0 := 12) (i0 := 0) (k0 := 30) S hG hS (hZ.2.1 (12, 0) (by decide)) (by decide) rfl hi16 dX12_rooms_62 (fun H locs hG hS => ?_)
          obtain ⟨σ17, eσ17, hf⟩ := zlt_s hf
          rw [← eσ17] at hG
          refine lv_aload_n hx hb dX12_rooms_63 rfl (lv_at hl 0 rfl) ?_
          refine lv_ldc2 (v := 465624852596) hx hb hown (hts _ zw_561) dX12_rooms_64 ?_
          obtain ⟨q18, eq18, hf⟩ := zbi hf
          refine z_callV (n := 1) (rest := []) (st1 := [.int q18.1]) (c0 := 12) (i0 := 0) (hZ.2.1 (12, 0) (by decide)) (by rfl) S hG hS hZ (fun _ _ h => h) (c_X12_takes l D aC zs A nl ad σ17 465624852596 q18.1 q18.2 eq18) zw_546 zw_547 zw_548 zw_5 zw_549 (by decide +kernel) ⟨rfl, rfl⟩ ⟨(Nat.le_of_ble_eq_true rfl), (Nat.le_of_ble_eq_true rfl)⟩ hl.1 rfl (by rfl) (by rfl) (Nat.le_of_ble_eq_true rfl) dX12_rooms_67 ⟨Nat.zero_le _, Nat.zero_le _⟩ (fun H locs hz19 hG hS => ?_)
          refine lv_if_ne (tgt := 75) hx hb dX12_rooms_70 (by decide) (fun c20 => ?_) (fun c20 => ?_)
          · have hf := zif_n c20 hf
            refine lv_aload_n hx hb dX12_rooms_75 rfl (lv_at hl 0 rfl) ?_
            obtain ⟨q21, eq21, hf⟩ := zbi hf
            refine z_callV (n := 0) (rest := []) (st1 := [.int q21.1]) (c0 := 12) (i0 := 0) (hZ.2.1 (12, 0) (by decide)) (by rfl) S hG hS hZ (fun _ _ h => h) (c_X12_takesPlain l D aC zs A nl ad q18.2 q21.1 q21.2 eq21) zw_594 zw_595 zw_596 zw_5 zw_597 (by decide +kernel) ⟨rfl, rfl⟩ ⟨(Nat.le_of_ble_eq_true rfl), (Nat.le_of_ble_eq_true rfl)⟩ hl.1 rfl (by rfl) (by rfl) (Nat.le_of_ble_eq_true rfl) dX12_rooms_76 ⟨Nat.zero_le _, Nat.zero_le _⟩ (fun H locs hz22 hG hS => ?_)
            refine lv_if_ne (tgt := 84) hx hb dX12_rooms_79 (by decide) (fun c23 => ?_) (fun c23 => ?_)
            · have hf := zif_n c23 hf
              refine lv_aload_n hx hb dX12_rooms_84 rfl (lv_at hl 0 rfl) ?_
              refine z_get (c0 := 12) (i0 := 0) (k0 := 30) (T := TX12) (v := .ref (ad 12 0 31)) S hG (hZ.2.1 (12, 0) (by decide)) rfl inlX12 (by decide) rfl zw_242 rfl dX12_rooms_85 ?_
              refine lv_iload_n hx hb dX12_rooms_88 rfl (lv_at hl 1 rfl) ?_
              refine lv_aload_n hx hb dX12_rooms_89 rfl (lv_at hl 0 rfl) ?_
              refine z_get (c0 := 12) (i0 := 0) (k0 := 41) (T := TX12) (v := .int (zI q21.2 12 0 41)) S hG (hZ.2.1 (12, 0) (by decide)) rfl inlX12 (by decide) rfl zw_559 rfl dX12_rooms_90 ?_
              obtain ⟨i24, hi24, hf⟩ := zbi hf
              refine z_iast (c0 := 12) (i0 := 0) (k0 := 30) S hG hS (hZ.2.1 (12, 0) (by decide)) (by decide) rfl hi24 dX12_rooms_93 (fun H locs hG hS => ?_)
              obtain ⟨σ25, eσ25, hf⟩ := zlt_s hf
              rw [← eσ25] at hG
              refine lv_iconst (v := 1) hx hb dX12_rooms_94 (by decide) ?_
              obtain ⟨hq1, hq2⟩ := Prod.mk.inj (Option.some.inj hf)
              subst hq1
              subst hq2
              exact z_zret S hG hS hlocks (Or.inr rfl) hr dX12_rooms_95
            · have hf := zif_p c23 hf
              refine lv_iconst (v := 0) hx hb dX12_rooms_82 (by decide) ?_
              obtain ⟨hq1, hq2⟩ := Prod.mk.inj (Option.some.inj hf)
              subst hq1
              subst hq2
              exact z_zret S hG hS hlocks (Or.inl rfl) hr dX12_rooms_83
          · have hf := zif_p c20 hf
            refine lv_iconst (v := 1) hx hb dX12_rooms_73 (by decide) ?_
            obtain ⟨hq1, hq2⟩ := Prod.mk.inj (Option.some.inj hf)
            subst hq1
            subst hq2
            exact z_zret S hG hS hlocks (Or.inr rfl) hr dX12_rooms_74
        · have hf := zif_p c13 hf
          refine lv_iconst (v := 0) hx hb dX12_rooms_44 (by decide) ?_
          obtain ⟨hq1, hq2⟩ := Prod.mk.inj (Option.some.inj hf)
          subst hq1
          subst hq2
          exact z_zret S hG hS hlocks (Or.inl rfl) hr dX12_rooms_45
    · have hf := zif_p c5 hf
      refine lv_iconst (v := 0) hx hb dX12_rooms_15 (by decide) ?_
      obtain ⟨hq1, hq2⟩ := Prod.mk.inj (Option.some.inj hf)
      subst hq1
      subst hq2
      exact z_zret S hG hS hlocks (Or.inl rfl) hr dX12_rooms_16
  exact hK0 _ _ ls hG hS hl hf
set_option maxRecDepth 100000 in
set_option maxHeartbeats 4000000 in
theorem c_X12_rates (l : Launch) (D : va_G) (aC : Nat → ClassId) (zs : Nat × Nat) (A : Nat → Prop) (nl : zNL) (ad : Nat → Nat → Nat → Nat) (σ : zM) (x1 : Int32) (r : Int32) (σ' : zM)  (hf : f_X12_rates σ x1 = some (r, σ')) : Met l yX12_rates (Cond.code yX12_rates cX12_rates 2 (some .boolean) :: wsL_law) ({ frames := 3, cells := 0, slots := 0, locals := 65 } : Room) (zP D aC zs zfM A nl ad σ [.ref (ad 12 0 0), .int x1]) (zQ (some (.int r)) (fun t => zG D aC A nl ad σ' t t.heap ∧ (r = 0 ∨ r = 1)) A) 0 0 A := by
  refine Met.ofW (cc := cX12_rates) (maxL := 2) (ret := (some .boolean)) (by decide) rfl ?_
  intro p e s m args below meth c s₁ B hml hv
  obtain ⟨rfl, hG, hZ⟩ := hv
  have hx := B.exec
  have hb := B.bytes
  have hr := B.returns
  have hts : ∀ w ∈ wsL_law, w.before ([.ref (ad 12 0 0), .int x1] : List Value).toArray s = true := fun w h => (atoms_spec B.pre) w (List.mem_cons_of_mem _ h)
  have hown : s.vm.findClass RX12 = some m.cls := findClass_of_methodNamed B.named
  have hlocks := B.notSynchronized
  have S : zS p m c cX12_rates 2 s ([.ref (ad 12 0 0), .int x1] : List Value).toArray RX12 := ⟨hx, hb, hml, hown, hts⟩
  have hS : va_S A s.heap s.heap [] := va_S.rf
  have hl := lv_entry ([.ref (ad 12 0 0), .int x1]) (n := 2) (Nat.le_of_ble_eq_true rfl)
  rw [lg_entry_eq]
  generalize (lg_sl ([.ref (ad 12 0 0), .int x1]) ++ List.replicate (2 - (lg_sl ([.ref (ad 12 0 0), .int x1])).length) Slot.unset).toArray = ls at hl ⊢
  have hl : lv_has ls 2 [(0, .ref (ad 12 0 0)), (1, .int x1)] := hl
  generalize hargs : ([.ref (ad 12 0 0), .int x1] : List Value).toArray = args at S hts ⊢
  clear hargs
  have hK0 : ∀ (H : Heap) (locs : List Loc) (ls : Array Slot), zG D aC A nl ad σ s H → va_S A s.heap H locs → lv_has ls 2 [(0, .ref (ad 12 0 0)), (1, .int x1)] → f_X12_rates σ x1 = some (r, σ') → zWk p l e ({ frames := 3, cells := 0, slots := 0, locals := 65 } : Room) s m args below meth c A (some (.int r)) (fun t => zG D aC A nl ad σ' t t.heap ∧ (r = 0 ∨ r = 1)) H locs (F0 m 0 ls []) := by
    intro H locs ls hG hS hl hf
    unfold f_X12_rates at hf
    refine lv_aload_n hx hb dX12_rates_0 rfl (lv_at hl 0 rfl) ?_
    refine z_get (c0 := 12) (i0 := 0) (k0 := 27) (T := TX12) (v := .ref (ad 12 0 28)) S hG (hZ.2.1 (12, 0) (by decide)) rfl inlX12 (by decide) rfl zw_239 rfl dX12_rates_1 ?_
    refine lv_iload_n hx hb dX12_rates_4 rfl (lv_at hl 1 rfl) ?_
    refine lv_bipush (v := 14) hx hb dX12_rates_5 (by decide) ?_
    obtain ⟨i1, hi1, hf⟩ := zbi hf
    refine z_iast (c0 := 12) (i0 := 0) (k0 := 27) S hG hS (hZ.2.1 (12, 0) (by decide)) (by decide) rfl hi1 dX12_rates_7 (fun H locs hG hS => ?_)
    obtain ⟨σ2, eσ2, hf⟩ := zlt_s hf
    rw [← eσ2] at hG
    refine lv_aload_n hx hb dX12_rates_8 rfl (lv_at hl 0 rfl) ?_
    obtain ⟨q3, eq3, hf⟩ := zbi hf
    refine z_callV (n := 0) (rest := []) (st1 := [.int q3.1]) (c0 := 12) (i0 := 0) (hZ.2.1 (12, 0) (by decide)) (by rfl) S hG hS hZ (fun _ _ h => h) (c_X12_takesName l D aC zs A nl ad σ2 q3.1 q3.2 eq3) zw_606 zw_607 zw_608 zw_5 zw_609 (by decide +kernel) ⟨rfl, rfl⟩ ⟨(Nat.le_of_ble_eq_true rfl), (Nat.le_of_ble_eq_true rfl)⟩ hl.1 rfl (by rfl) (by rfl) (Nat.le_of_ble_eq_true rfl) dX12_rates_9 ⟨Nat.zero_le _, Nat.zero_le _⟩ (fun H locs hz4 hG hS => ?_)
    refine lv_if_ne (tgt := 17) hx hb dX12_rates_12 (by decide) (fun c5 => ?_) (fun c5 => ?_)
    · have hf := zif_n c5 hf
      refine lv_aload_n hx hb dX12_rates_17 rfl (lv_at hl 0 rfl) ?_
      refine z_get (c0 := 12) (i0 := 0) (k0 := 28) (T := TX12) (v := .ref (ad 12 0 29)) S hG (hZ.2.1 (12, 0) (by decide)) rfl inlX12 (by decide) rfl zw_240 rfl dX12_rates_18 ?_
      refine lv_iload_n hx hb dX12_rates_21 rfl (lv_at hl 1 rfl) ?_
      refine lv_aload_n hx hb dX12_rates_22 rfl (lv_at hl 0 rfl) ?_
      refine z_get (c0 := 12) (i0 := 0) (k0 := 41) (T := TX12) (v := .int (zI q3.2 12 0 41)) S hG (hZ.2.1 (12, 0) (by decide)) rfl inlX12 (by decide) rfl zw_559 rfl dX12_rates_23 ?_
      obtain ⟨i6, hi6, hf⟩ := zbi hf
      refine z_iast (c0 := 12) (i0 := 0) (k0 := 28) S hG hS (hZ.2.1 (12, 0) (by decide)) (by decide) rfl hi6 dX12_rates_26 (fun H locs hG hS => ?_)
      obtain ⟨σ7, eσ7, hf⟩ := zlt_s hf
      rw [← eσ7] at hG
      refine lv_aload_n hx hb dX12_rates_27 rfl (lv_at hl 0 rfl) ?_
      refine lv_iconst (v := 0) hx hb dX12_rates_28 (by decide) ?_
      refine lv_sipush (v := 9999) hx hb dX12_rates_29 (by decide) ?_
      obtain ⟨q8, eq8, hf⟩ := zbi hf
      refine z_callV (n := 2) (rest := []) (st1 := [.int q8.1]) (c0 := 12) (i0 := 0) (hZ.2.1 (12, 0) (by decide)) (by rfl) S hG hS hZ (fun _ _ h => h) (c_X12_takesNumber l D aC zs A nl ad σ7 0 9999 q8.1 q8.2 eq8) zw_598 zw_599 zw_600 zw_5 zw_601 (by decide +kernel) ⟨rfl, rfl⟩ ⟨(Nat.le_of_ble_eq_true rfl), (Nat.le_of_ble_eq_true rfl)⟩ hl.1 rfl (by rfl) (by rfl) (Nat.le_of_ble_eq_true rfl) dX12_rates_32 ⟨Nat.zero_le _, Nat.zero_le _⟩ (fun H locs hz9 hG hS => ?_)
      refine lv_if_ne (tgt := 40) hx hb dX12_rates_35 (by decide) (fun c10 => ?_) (fun c10 => ?_)
      · have hf := zif_n c10 hf
        refine lv_aload_n hx hb dX12_rates_40 rfl (lv_at hl 0 rfl) ?_
        refine z_get (c0 := 12) (i0 := 0) (k0 := 29) (T := TX12) (v := .ref (ad 12 0 30)) S hG (hZ.2.1 (12, 0) (by decide)) rfl inlX12 (by decide) rfl zw_241 rfl dX12_rates_41 ?_
        refine lv_iload_n hx hb dX12_rates_44 rfl (lv_at hl 1 rfl) ?_
        refine lv_aload_n hx hb dX12_rates_45 rfl (lv_at hl 0 rfl) ?_
        refine z_get (c0 := 12) (i0 := 0) (k0 := 41) (T := TX12) (v := .int (zI q8.2 12 0 41)) S hG (hZ.2.1 (12, 0) (by decide)) rfl inlX12 (by decide) rfl zw_559 rfl dX12_rates_46 ?_
        obtain ⟨i11, hi11, hf⟩ := zbi hf
        refine z_iast (c0 := 12) (i0 := 0) (k0 := 29) S hG hS (hZ.2.1 (12, 0) (by decide)) (by decide) rfl hi11 dX12_rates_49 (fun H locs hG hS => ?_)
        obtain ⟨σ12, eσ12, hf⟩ := zlt_s hf
        rw [← eσ12] at hG
        refine lv_iconst (v := 1) hx hb dX12_rates_50 (by decide) ?_
        obtain ⟨hq1, hq2⟩ := Prod.mk.inj (Option.some.inj hf)
        subst hq1
        subst hq2
        exact z_zret S hG hS hlocks (Or.inr rfl) hr dX12_rates_51
      · have hf := zif_p c10 hf
        refine lv_iconst (v := 0) hx hb dX12_rates_38 (by decide) ?_
        obtain ⟨hq1, hq2⟩ := Prod.mk.inj (Option.some.inj hf)
        subst hq1
        subst hq2
        exact z_zret S hG hS hlocks (Or.inl rfl) hr dX12_rates_39
    · have hf := zif_p c5 hf
      refine lv_iconst (v := 0) hx hb dX12_rates_15 (by decide) ?_
      obtain ⟨hq1, hq2⟩ := Prod.mk.inj (Option.some.inj hf)
      subst hq1
      subst hq2
      exact z_zret S hG hS hlocks (Or.inl rfl) hr dX12_rates_16
  exact hK0 _ _ ls hG hS hl hf
set_option maxRecDepth 100000 in
set_option maxHeartbeats 4000000 in
theorem c_X12_costs (l : Launch) (D : va_G) (aC : Nat → ClassId) (zs : Nat × Nat) (A : Nat → Prop) (nl : zNL) (ad : Nat → Nat → Nat → Nat) (σ : zM) (x1 : Int32) (r : Int32) (σ' : zM)  (hf : f_X12_costs σ x1 = some (r, σ')) : Met l yX12_costs (Cond.code yX12_costs cX12_costs 2 (some .boolean) :: wsL_law) ({ frames := 3, cells := 0, slots := 0, locals := 69 } : Room) (zP D aC zs zfM A nl ad σ [.ref (ad 12 0 0), .int x1]) (zQ (some (.int r)) (fun t => zG D aC A nl ad σ' t t.heap ∧ (r = 0 ∨ r = 1)) A) 0 0 A := by
  refine Met.ofW (cc := cX12_costs) (maxL := 2) (ret := (some .boolean)) (by decide) rfl ?_
  intro p e s m args below meth c s₁ B hml hv
  obtain ⟨rfl, hG, hZ⟩ := hv
  have hx := B.exec
  have hb := B.bytes
  have hr := B.returns
  have hts : ∀ w ∈ wsL_law, w.before ([.ref (ad 12 0 0), .int x1] : List Value).toArray s = true := fun w h => (atoms_spec B.pre) w (List.mem_cons_of_mem _ h)
  have hown : s.vm.findClass RX12 = some m.cls := findClass_of_methodNamed B.named
  have hlocks := B.notSynchronized
  have S : zS p m c cX12_costs 2 s ([.ref (ad 12 0 0), .int x1] : List Value).toArray RX12 := ⟨hx, hb, hml, hown, hts⟩
  have hS : va_S A s.heap s.heap [] := va_S.rf
  have hl := lv_entry ([.ref (ad 12 0 0), .int x1]) (n := 2) (Nat.le_of_ble_eq_true rfl)
  rw [lg_entry_eq]
  generalize (lg_sl ([.ref (ad 12 0 0), .int x1]) ++ List.replicate (2 - (lg_sl ([.ref (ad 12 0 0), .int x1])).length) Slot.unset).toArray = ls at hl ⊢
  have hl : lv_has ls 2 [(0, .ref (ad 12 0 0)), (1, .int x1)] := hl
  generalize hargs : ([.ref (ad 12 0 0), .int x1] : List Value).toArray = args at S hts ⊢
  clear hargs
  have hK0 : ∀ (H : Heap) (locs : List Loc) (ls : Array Slot), zG D aC A nl ad σ s H → va_S A s.heap H locs → lv_has ls 2 [(0, .ref (ad 12 0 0)), (1, .int x1)] → f_X12_costs σ x1 = some (r, σ') → zWk p l e ({ frames := 3, cells := 0, slots := 0, locals := 69 } : Room) s m args below meth c A (some (.int r)) (fun t => zG D aC A nl ad σ' t t.heap ∧ (r = 0 ∨ r = 1)) H locs (F0 m 0 ls []) := by
    intro H locs ls hG hS hl hf
    unfold f_X12_costs at hf
    refine lv_aload_n hx hb dX12_costs_0 rfl (lv_at hl 0 rfl) ?_
    refine lv_ldc2 (v := 1836020596) hx hb hown (hts _ zw_569) dX12_costs_1 ?_
    obtain ⟨q1, eq1, hf⟩ := zbi hf
    refine z_callV (n := 1) (rest := []) (st1 := [.int q1.1]) (c0 := 12) (i0 := 0) (hZ.2.1 (12, 0) (by decide)) (by rfl) S hG hS hZ (fun _ _ h => h) (c_X12_takes l D aC zs A nl ad σ 1836020596 q1.1 q1.2 eq1) zw_546 zw_547 zw_548 zw_5 zw_549 (by decide +kernel) ⟨rfl, rfl⟩ ⟨(Nat.le_of_ble_eq_true rfl), (Nat.le_of_ble_eq_true rfl)⟩ hl.1 rfl (by rfl) (by rfl) (Nat.le_of_ble_eq_true rfl) dX12_costs_4 ⟨Nat.zero_le _, Nat.zero_le _⟩ (fun H locs hz2 hG hS => ?_)
    refine lv_if_eq (tgt := 24) hx hb dX12_costs_7 (by decide) (fun c3 => ?_) (fun c3 => ?_)
    · have hf := zif_p c3 hf
      refine lv_iconst (v := 0) hx hb dX12_costs_24 (by decide) ?_
      obtain ⟨hq1, hq2⟩ := Prod.mk.inj (Option.some.inj hf)
      subst hq1
      subst hq2
      exact z_zret S hG hS hlocks (Or.inl rfl) hr dX12_costs_25
    · have hf := zif_n c3 hf
      refine lv_aload_n hx hb dX12_costs_10 rfl (lv_at hl 0 rfl) ?_
      refine lv_iload_n hx hb dX12_costs_11 rfl (lv_at hl 1 rfl) ?_
      refine lv_bipush (v := 15) hx hb dX12_costs_12 (by decide) ?_
      refine lv_iconst (v := 0) hx hb dX12_costs_14 (by decide) ?_
      refine lv_ldcw (v := 999999) hx hb hown (hts _ zw_541) dX12_costs_15 ?_
      obtain ⟨q4, eq4, hf⟩ := zbi hf
      refine z_callV (n := 4) (rest := []) (st1 := [.int q4.1]) (c0 := 12) (i0 := 0) (hZ.2.1 (12, 0) (by decide)) (by rfl) S hG hS hZ (fun _ _ h => h) (c_X12_plain l D aC zs A nl ad q1.2 x1 15 0 999999 q4.1 q4.2 eq4) zw_614 zw_615 zw_616 zw_5 zw_617 (by decide +kernel) ⟨rfl, rfl⟩ ⟨(Nat.le_of_ble_eq_true rfl), (Nat.le_of_ble_eq_true rfl)⟩ hl.1 rfl (by rfl) (by rfl) (Nat.le_of_ble_eq_true rfl) dX12_costs_18 ⟨Nat.zero_le _, Nat.zero_le _⟩ (fun H locs hz5 hG hS => ?_)
      refine lv_if_ne (tgt := 26) hx hb dX12_costs_21 (by decide) (fun c6 => ?_) (fun c6 => ?_)
      · have hf := zif_n c6 hf
        refine lv_aload_n hx hb dX12_costs_26 rfl (lv_at hl 0 rfl) ?_
        refine z_get (c0 := 12) (i0 := 0) (k0 := 29) (T := TX12) (v := .ref (ad 12 0 30)) S hG (hZ.2.1 (12, 0) (by decide)) rfl inlX12 (by decide) rfl zw_241 rfl dX12_costs_27 ?_
        refine lv_iload_n hx hb dX12_costs_30 rfl (lv_at hl 1 rfl) ?_
        refine lv_iconst (v := (-1)) hx hb dX12_costs_31 (by decide) ?_
        obtain ⟨i7, hi7, hf⟩ := zbi hf
        refine z_iast (c0 := 12) (i0 := 0) (k0 := 29) S hG hS (hZ.2.1 (12, 0) (by decide)) (by decide) rfl hi7 dX12_costs_32 (fun H locs hG hS => ?_)
        obtain ⟨σ8, eσ8, hf⟩ := zlt_s hf
        rw [← eσ8] at hG
        refine lv_aload_n hx hb dX12_costs_33 rfl (lv_at hl 0 rfl) ?_
        refine lv_ldc2 (v := 1936744814) hx hb hown (hts _ zw_570) dX12_costs_34 ?_
        obtain ⟨q9, eq9, hf⟩ := zbi hf
        refine z_callV (n := 1) (rest := []) (st1 := [.int q9.1]) (c0 := 12) (i0 := 0) (hZ.2.1 (12, 0) (by decide)) (by rfl) S hG hS hZ (fun _ _ h => h) (c_X12_takes l D aC zs A nl ad σ8 1936744814 q9.1 q9.2 eq9) zw_546 zw_547 zw_548 zw_5 zw_549 (by decide +kernel) ⟨rfl, rfl⟩ ⟨(Nat.le_of_ble_eq_true rfl), (Nat.le_of_ble_eq_true rfl)⟩ hl.1 rfl (by rfl) (by rfl) (Nat.le_of_ble_eq_true rfl) dX12_costs_37 ⟨Nat.zero_le _, Nat.zero_le _⟩ (fun H locs hz10 hG hS => ?_)
        refine lv_if_ne (tgt := 45) hx hb dX12_costs_40 (by decide) (fun c11 => ?_) (fun c11 => ?_)
        · have hf := zif_n c11 hf
          refine lv_aload_n hx hb dX12_costs_45 rfl (lv_at hl 0 rfl) ?_
          refine lv_iconst (v := 0) hx hb dX12_costs_46 (by decide) ?_
          refine lv_bipush (v := 50) hx hb dX12_costs_47 (by decide) ?_
          obtain ⟨q12, eq12, hf⟩ := zbi hf
          refine z_callV (n := 2) (rest := []) (st1 := [.int q12.1]) (c0 := 12) (i0 := 0) (hZ.2.1 (12, 0) (by decide)) (by rfl) S hG hS hZ (fun _ _ h => h) (c_X12_takesNumber l D aC zs A nl ad q9.2 0 50 q12.1 q12.2 eq12) zw_598 zw_599 zw_600 zw_5 zw_601 (by decide +kernel) ⟨rfl, rfl⟩ ⟨(Nat.le_of_ble_eq_true rfl), (Nat.le_of_ble_eq_true rfl)⟩ hl.1 rfl (by rfl) (by rfl) (Nat.le_of_ble_eq_true rfl) dX12_costs_49 ⟨Nat.zero_le _, Nat.zero_le _⟩ (fun H locs hz13 hG hS => ?_)
          refine lv_if_ne (tgt := 57) hx hb dX12_costs_52 (by decide) (fun c14 => ?_) (fun c14 => ?_)
          · have hf := zif_n c14 hf
            refine lv_aload_n hx hb dX12_costs_57 rfl (lv_at hl 0 rfl) ?_
            refine z_get (c0 := 12) (i0 := 0) (k0 := 29) (T := TX12) (v := .ref (ad 12 0 30)) S hG (hZ.2.1 (12, 0) (by decide)) rfl inlX12 (by decide) rfl zw_241 rfl dX12_costs_58 ?_
            refine lv_iload_n hx hb dX12_costs_61 rfl (lv_at hl 1 rfl) ?_
            refine lv_aload_n hx hb dX12_costs_62 rfl (lv_at hl 0 rfl) ?_
            refine z_get (c0 := 12) (i0 := 0) (k0 := 41) (T := TX12) (v := .int (zI q12.2 12 0 41)) S hG (hZ.2.1 (12, 0) (by decide)) rfl inlX12 (by decide) rfl zw_559 rfl dX12_costs_63 ?_
            obtain ⟨i15, hi15, hf⟩ := zbi hf
            refine z_iast (c0 := 12) (i0 := 0) (k0 := 29) S hG hS (hZ.2.1 (12, 0) (by decide)) (by decide) rfl hi15 dX12_costs_66 (fun H locs hG hS => ?_)
            obtain ⟨σ16, eσ16, hf⟩ := zlt_s hf
            rw [← eσ16] at hG
            refine lv_iconst (v := 1) hx hb dX12_costs_67 (by decide) ?_
            obtain ⟨hq1, hq2⟩ := Prod.mk.inj (Option.some.inj hf)
            subst hq1
            subst hq2
            exact z_zret S hG hS hlocks (Or.inr rfl) hr dX12_costs_68
          · have hf := zif_p c14 hf
            refine lv_iconst (v := 0) hx hb dX12_costs_55 (by decide) ?_
            obtain ⟨hq1, hq2⟩ := Prod.mk.inj (Option.some.inj hf)
            subst hq1
            subst hq2
            exact z_zret S hG hS hlocks (Or.inl rfl) hr dX12_costs_56
        · have hf := zif_p c11 hf
          refine lv_iconst (v := 1) hx hb dX12_costs_43 (by decide) ?_
          obtain ⟨hq1, hq2⟩ := Prod.mk.inj (Option.some.inj hf)
          subst hq1
          subst hq2
          exact z_zret S hG hS hlocks (Or.inr rfl) hr dX12_costs_44
      · have hf := zif_p c6 hf
        refine lv_iconst (v := 0) hx hb dX12_costs_24 (by decide) ?_
        obtain ⟨hq1, hq2⟩ := Prod.mk.inj (Option.some.inj hf)
        subst hq1
        subst hq2
        exact z_zret S hG hS hlocks (Or.inl rfl) hr dX12_costs_25
  exact hK0 _ _ ls hG hS hl hf
set_option maxRecDepth 100000 in
set_option maxHeartbeats 4000000 in
theorem c_X12_fees (l : Launch) (D : va_G) (aC : Nat → ClassId) (zs : Nat × Nat) (A : Nat → Prop) (nl : zNL) (ad : Nat → Nat → Nat → Nat) (σ : zM) (x1 : Int32) (r : Int32) (σ' : zM)  (hf : f_X12_fees σ x1 = some (r, σ')) : Met l yX12_fees (Cond.code yX12_fees cX12_fees 2 (some .boolean) :: wsL_law) ({ frames := 3, cells := 0, slots := 0, locals := 69 } : Room) (zP D aC zs zfM A nl ad σ [.ref (ad 12 0 0), .int x1]) (zQ (some (.int r)) (fun t => zG D aC A nl ad σ' t t.heap ∧ (r = 0 ∨ r = 1)) A) 0 0 A := by
  refine Met.ofW (cc := cX12_fees) (maxL := 2) (ret := (some .boolean)) (by decide) rfl ?_
  intro p e s m args below meth c s₁ B hml hv
  obtain ⟨rfl, hG, hZ⟩ := hv
  have hx := B.exec
  have hb := B.bytes
  have hr := B.returns
  have hts : ∀ w ∈ wsL_law, w.before ([.ref (ad 12 0 0), .int x1] : List Value).toArray s = true := fun w h => (atoms_spec B.pre) w (List.mem_cons_of_mem _ h)
  have hown : s.vm.findClass RX12 = some m.cls := findClass_of_methodNamed B.named
  have hlocks := B.notSynchronized
  have S : zS p m c cX12_fees 2 s ([.ref (ad 12 0 0), .int x1] : List Value).toArray RX12 := ⟨hx, hb, hml, hown, hts⟩
  have hS : va_S A s.heap s.heap [] := va_S.rf
  have hl := lv_entry ([.ref (ad 12 0 0), .int x1]) (n := 2) (Nat.le_of_ble_eq_true rfl)
  rw [lg_entry_eq]
  generalize (lg_sl ([.ref (ad 12 0 0), .int x1]) ++ List.replicate (2 - (lg_sl ([.ref (ad 12 0 0), .int x1])).length) Slot.unset).toArray = ls at hl ⊢
  have hl : lv_has ls 2 [(0, .ref (ad 12 0 0)), (1, .int x1)] := hl
  generalize hargs : ([.ref (ad 12 0 0), .int x1] : List Value).toArray = args at S hts ⊢
  clear hargs
  have hK0 : ∀ (H : Heap) (locs : List Loc) (ls : Array Slot), zG D aC A nl ad σ s H → va_S A s.heap H locs → lv_has ls 2 [(0, .ref (ad 12 0 0)), (1, .int x1)] → f_X12_fees σ x1 = some (r, σ') → zWk p l e ({ frames := 3, cells := 0, slots := 0, locals := 69 } : Room) s m args below meth c A (some (.int r)) (fun t => zG D aC A nl ad σ' t t.heap ∧ (r = 0 ∨ r = 1)) H locs (F0 m 0 ls []) := by
    intro H locs ls hG hS hl hf
    unfold f_X12_fees at hf
    refine lv_aload_n hx hb dX12_fees_0 rfl (lv_at hl 0 rfl) ?_
    refine lv_iload_n hx hb dX12_fees_1 rfl (lv_at hl 1 rfl) ?_
    refine lv_bipush (v := 8) hx hb dX12_fees_2 (by decide) ?_
    refine lv_iconst (v := 0) hx hb dX12_fees_4 (by decide) ?_
    refine lv_bipush (v := 100) hx hb dX12_fees_5 (by decide) ?_
    obtain ⟨q1, eq1, hf⟩ := zbi hf
    refine z_callV (n := 4) (rest := []) (st1 := [.int q1.1]) (c0 := 12) (i0 := 0) (hZ.2.1 (12, 0) (by decide)) (by rfl) S hG hS hZ (fun _ _ h => h) (c_X12_plain l D aC zs A nl ad σ x1 8 0 100 q1.1 q1.2 eq1) zw_614 zw_615 zw_616 zw_5 zw_617 (by decide +kernel) ⟨rfl, rfl⟩ ⟨(Nat.le_of_ble_eq_true rfl), (Nat.le_of_ble_eq_true rfl)⟩ hl.1 rfl (by rfl) (by rfl) (Nat.le_of_ble_eq_true rfl) dX12_fees_7 ⟨Nat.zero_le _, Nat.zero_le _⟩ (fun H locs hz2 hG hS => ?_)
    refine lv_if_eq (tgt := 23) hx hb dX12_fees_10 (by decide) (fun c3 => ?_) (fun c3 => ?_)
    · have hf := zif_p c3 hf
      refine lv_iconst (v := 0) hx hb dX12_fees_23 (by decide) ?_
      obtain ⟨hq1, hq2⟩ := Prod.mk.inj (Option.some.inj hf)
      subst hq1
      subst hq2
      exact z_zret S hG hS hlocks (Or.inl rfl) hr dX12_fees_24
    · have hf := zif_n c3 hf
      refine lv_aload_n hx hb dX12_fees_13 rfl (lv_at hl 0 rfl) ?_
      refine lv_iconst (v := 0) hx hb dX12_fees_14 (by decide) ?_
      refine lv_bipush (v := 100) hx hb dX12_fees_15 (by decide) ?_
      obtain ⟨q4, eq4, hf⟩ := zbi hf
      refine z_callV (n := 2) (rest := []) (st1 := [.int q4.1]) (c0 := 12) (i0 := 0) (hZ.2.1 (12, 0) (by decide)) (by rfl) S hG hS hZ (fun _ _ h => h) (c_X12_takesNumber l D aC zs A nl ad q1.2 0 100 q4.1 q4.2 eq4) zw_598 zw_599 zw_600 zw_5 zw_601 (by decide +kernel) ⟨rfl, rfl⟩ ⟨(Nat.le_of_ble_eq_true rfl), (Nat.le_of_ble_eq_true rfl)⟩ hl.1 rfl (by rfl) (by rfl) (Nat.le_of_ble_eq_true rfl) dX12_fees_17 ⟨Nat.zero_le _, Nat.zero_le _⟩ (fun H locs hz5 hG hS => ?_)
      refine lv_if_ne (tgt := 25) hx hb dX12_fees_20 (by decide) (fun c6 => ?_) (fun c6 => ?_)
      · have hf := zif_n c6 hf
        refine lv_aload_n hx hb dX12_fees_25 rfl (lv_at hl 0 rfl) ?_
        refine z_get (c0 := 12) (i0 := 0) (k0 := 29) (T := TX12) (v := .ref (ad 12 0 30)) S hG (hZ.2.1 (12, 0) (by decide)) rfl inlX12 (by decide) rfl zw_241 rfl dX12_fees_26 ?_
        refine lv_iload_n hx hb dX12_fees_29 rfl (lv_at hl 1 rfl) ?_
        refine lv_aload_n hx hb dX12_fees_30 rfl (lv_at hl 0 rfl) ?_
        refine z_get (c0 := 12) (i0 := 0) (k0 := 41) (T := TX12) (v := .int (zI q4.2 12 0 41)) S hG (hZ.2.1 (12, 0) (by decide)) rfl inlX12 (by decide) rfl zw_559 rfl dX12_fees_31 ?_
        obtain ⟨i7, hi7, hf⟩ := zbi hf
        refine z_iast (c0 := 12) (i0 := 0) (k0 := 29) S hG hS (hZ.2.1 (12, 0) (by decide)) (by decide) rfl hi7 dX12_fees_34 (fun H locs hG hS => ?_)
        obtain ⟨σ8, eσ8, hf⟩ := zlt_s hf
        rw [← eσ8] at hG
        refine lv_aload_n hx hb dX12_fees_35 rfl (lv_at hl 0 rfl) ?_
        refine lv_iconst (v := 0) hx hb dX12_fees_36 (by decide) ?_
        refine lv_bipush (v := 100) hx hb dX12_fees_37 (by decide) ?_
        obtain ⟨q9, eq9, hf⟩ := zbi hf
        refine z_callV (n := 2) (rest := []) (st1 := [.int q9.1]) (c0 := 12) (i0 := 0) (hZ.2.1 (12, 0) (by decide)) (by rfl) S hG hS hZ (fun _ _ h => h) (c_X12_takesNumber l D aC zs A nl ad σ8 0 100 q9.1 q9.2 eq9) zw_598 zw_599 zw_600 zw_5 zw_601 (by decide +kernel) ⟨rfl, rfl⟩ ⟨(Nat.le_of_ble_eq_true rfl), (Nat.le_of_ble_eq_true rfl)⟩ hl.1 rfl (by rfl) (by rfl) (Nat.le_of_ble_eq_true rfl) dX12_fees_39 ⟨Nat.zero_le _, Nat.zero_le _⟩ (fun H locs hz10 hG hS => ?_)
        refine lv_if_ne (tgt := 47) hx hb dX12_fees_42 (by decide) (fun c11 => ?_) (fun c11 => ?_)
        · have hf := zif_n c11 hf
          refine lv_aload_n hx hb dX12_fees_47 rfl (lv_at hl 0 rfl) ?_
          refine z_get (c0 := 12) (i0 := 0) (k0 := 30) (T := TX12) (v := .ref (ad 12 0 31)) S hG (hZ.2.1 (12, 0) (by decide)) rfl inlX12 (by decide) rfl zw_242 rfl dX12_fees_48 ?_
          refine lv_iload_n hx hb dX12_fees_51 rfl (lv_at hl 1 rfl) ?_
          refine lv_aload_n hx hb dX12_fees_52 rfl (lv_at hl 0 rfl) ?_
          refine z_get (c0 := 12) (i0 := 0) (k0 := 41) (T := TX12) (v := .int (zI q9.2 12 0 41)) S hG (hZ.2.1 (12, 0) (by decide)) rfl inlX12 (by decide) rfl zw_559 rfl dX12_fees_53 ?_
          obtain ⟨i12, hi12, hf⟩ := zbi hf
          refine z_iast (c0 := 12) (i0 := 0) (k0 := 30) S hG hS (hZ.2.1 (12, 0) (by decide)) (by decide) rfl hi12 dX12_fees_56 (fun H locs hG hS => ?_)
          obtain ⟨σ13, eσ13, hf⟩ := zlt_s hf
          rw [← eσ13] at hG
          refine lv_iconst (v := 1) hx hb dX12_fees_57 (by decide) ?_
          obtain ⟨hq1, hq2⟩ := Prod.mk.inj (Option.some.inj hf)
          subst hq1
          subst hq2
          exact z_zret S hG hS hlocks (Or.inr rfl) hr dX12_fees_58
        · have hf := zif_p c11 hf
          refine lv_iconst (v := 0) hx hb dX12_fees_45 (by decide) ?_
          obtain ⟨hq1, hq2⟩ := Prod.mk.inj (Option.some.inj hf)
          subst hq1
          subst hq2
          exact z_zret S hG hS hlocks (Or.inl rfl) hr dX12_fees_46
      · have hf := zif_p c6 hf
        refine lv_iconst (v := 0) hx hb dX12_fees_23 (by decide) ?_
        obtain ⟨hq1, hq2⟩ := Prod.mk.inj (Option.some.inj hf)
        subst hq1
        subst hq2
        exact z_zret S hG hS hlocks (Or.inl rfl) hr dX12_fees_24
  exact hK0 _ _ ls hG hS hl hf
set_option maxRecDepth 100000 in
set_option maxHeartbeats 4000000 in
theorem c_X12_votes (l : Launch) (D : va_G) (aC : Nat → ClassId) (zs : Nat × Nat) (A : Nat → Prop) (nl : zNL) (ad : Nat → Nat → Nat → Nat) (σ : zM) (x1 : Int32) (r : Int32) (σ' : zM)  (hf : f_X12_votes σ x1 = some (r, σ')) : Met l yX12_votes (Cond.code yX12_votes cX12_votes 2 (some .boolean) :: wsL_law) ({ frames := 3, cells := 0, slots := 0, locals := 64 } : Room) (zP D aC zs zfM A nl ad σ [.ref (ad 12 0 0), .int x1]) (zQ (some (.int r)) (fun t => zG D aC A nl ad σ' t t.heap ∧ (r = 0 ∨ r = 1)) A) 0 0 A := by
  refine Met.ofW (cc := cX12_votes) (maxL := 2) (ret := (some .boolean)) (by decide) rfl ?_
  intro p e s m args below meth c s₁ B hml hv
  obtain ⟨rfl, hG, hZ⟩ := hv
  have hx := B.exec
  have hb := B.bytes
  have hr := B.returns
  have hts : ∀ w ∈ wsL_law, w.before ([.ref (ad 12 0 0), .int x1] : List Value).toArray s = true := fun w h => (atoms_spec B.pre) w (List.mem_cons_of_mem _ h)
  have hown : s.vm.findClass RX12 = some m.cls := findClass_of_methodNamed B.named
  have hlocks := B.notSynchronized
  have S : zS p m c cX12_votes 2 s ([.ref (ad 12 0 0), .int x1] : List Value).toArray RX12 := ⟨hx, hb, hml, hown, hts⟩
  have hS : va_S A s.heap s.heap [] := va_S.rf
  have hl := lv_entry ([.ref (ad 12 0 0), .int x1]) (n := 2) (Nat.le_of_ble_eq_true rfl)
  rw [lg_entry_eq]
  generalize (lg_sl ([.ref (ad 12 0 0), .int x1]) ++ List.replicate (2 - (lg_sl ([.ref (ad 12 0 0), .int x1])).length) Slot.unset).toArray = ls at hl ⊢
  have hl : lv_has ls 2 [(0, .ref (ad 12 0 0)), (1, .int x1)] := hl
  generalize hargs : ([.ref (ad 12 0 0), .int x1] : List Value).toArray = args at S hts ⊢
  clear hargs
  have KJ56 : ∀ (t1b56 : Int32) (t2b56 : Int32)  (σb56 : zM) (H : Heap) (locs : List Loc) (ls : Array Slot), zG D aC A nl ad σb56 s H → va_S A s.heap H locs → lv_has ls 2 [(0, .ref (ad 12 0 0)), (1, .int x1)] → (f_X12_votes_B56 σb56 x1 t1b56 t2b56) = some (r, σ') → zWk p l e ({ frames := 3, cells := 0, slots := 0, locals := 64 } : Room) s m args below meth c A (some (.int r)) (fun t => zG D aC A nl ad σ' t t.heap ∧ (r = 0 ∨ r = 1)) H locs (F0 m 56 ls [.int t2b56, .int t1b56, .ref (ad 12 0 29)]) := by
    intro t1b56 t2b56  σb56 H locs ls hG hS hl hf
    unfold f_X12_votes_B56 at hf
    obtain ⟨i13, hi13, hf⟩ := zbi hf
    refine z_iast (c0 := 12) (i0 := 0) (k0 := 28) S hG hS (hZ.2.1 (12, 0) (by decide)) (by decide) rfl hi13 dX12_votes_56 (fun H locs hG hS => ?_)
    obtain ⟨σ14, eσ14, hf⟩ := zlt_s hf
    rw [← eσ14] at hG
    refine lv_aload_n hx hb dX12_votes_57 rfl (lv_at hl 0 rfl) ?_
    refine z_get (c0 := 12) (i0 := 0) (k0 := 28) (T := TX12) (v := .ref (ad 12 0 29)) S hG (hZ.2.1 (12, 0) (by decide)) rfl inlX12 (by decide) rfl zw_240 rfl dX12_votes_58 ?_
    refine lv_iload_n hx hb dX12_votes_61 rfl (lv_at hl 1 rfl) ?_
    obtain ⟨i15, hi15, hf⟩ := zbi hf
    refine z_iald (c0 := 12) (i0 := 0) (k0 := 28) S hG (hZ.2.1 (12, 0) (by decide)) (by decide) rfl hi15 dX12_votes_62 ?_
    refine lv_iconst (v := (-1)) hx hb dX12_votes_63 (by decide) ?_
    refine lv_icmp_eq (tgt := 71) hx hb dX12_votes_64 (by decide) (fun c16 => ?_) (fun c16 => ?_)
    · have hf := zif_p c16 hf
      refine lv_iconst (v := 0) hx hb dX12_votes_71 (by decide) ?_
      obtain ⟨hq1, hq2⟩ := Prod.mk.inj (Option.some.inj hf)
      subst hq1
      subst hq2
      exact z_zret S hG hS hlocks (Or.inl rfl) hr dX12_votes_72
    · have hf := zif_n c16 hf
      refine lv_iconst (v := 1) hx hb dX12_votes_67 (by decide) ?_
      refine lv_goto (tgt := 72) hx hb dX12_votes_68 (by decide) ?_
      obtain ⟨hq1, hq2⟩ := Prod.mk.inj (Option.some.inj hf)
      subst hq1
      subst hq2
      exact z_zret S hG hS hlocks (Or.inr rfl) hr dX12_votes_72
  have hK0 : ∀ (H : Heap) (locs : List Loc) (ls : Array Slot), zG D aC A nl ad σ s H → va_S A s.heap H locs → lv_has ls 2 [(0, .ref (ad 12 0 0)), (1, .int x1)] → f_X12_votes σ x1 = some (r, σ') → zWk p l e ({ frames := 3, cells := 0, slots := 0, locals := 64 } : Room) s m args below meth c A (some (.int r)) (fun t => zG D aC A nl ad σ' t t.heap ∧ (r = 0 ∨ r = 1)) H locs (F0 m 0 ls []) := by
    intro H locs ls hG hS hl hf
    unfold f_X12_votes at hf
    refine lv_aload_n hx hb dX12_votes_0 rfl (lv_at hl 0 rfl) ?_
    refine z_get (c0 := 12) (i0 := 0) (k0 := 27) (T := TX12) (v := .ref (ad 12 0 28)) S hG (hZ.2.1 (12, 0) (by decide)) rfl inlX12 (by decide) rfl zw_239 rfl dX12_votes_1 ?_
    refine lv_iload_n hx hb dX12_votes_4 rfl (lv_at hl 1 rfl) ?_
    refine lv_bipush (v := 6) hx hb dX12_votes_5 (by decide) ?_
    obtain ⟨i1, hi1, hf⟩ := zbi hf
    refine z_iast (c0 := 12) (i0 := 0) (k0 := 27) S hG hS (hZ.2.1 (12, 0) (by decide)) (by decide) rfl hi1 dX12_votes_7 (fun H locs hG hS => ?_)
    obtain ⟨σ2, eσ2, hf⟩ := zlt_s hf
    rw [← eσ2] at hG
    refine lv_aload_n hx hb dX12_votes_8 rfl (lv_at hl 0 rfl) ?_
    refine z_get (c0 := 12) (i0 := 0) (k0 := 28) (T := TX12) (v := .ref (ad 12 0 29)) S hG (hZ.2.1 (12, 0) (by decide)) rfl inlX12 (by decide) rfl zw_240 rfl dX12_votes_9 ?_
    refine lv_iload_n hx hb dX12_votes_12 rfl (lv_at hl 1 rfl) ?_
    refine lv_aload_n hx hb dX12_votes_13 rfl (lv_at hl 0 rfl) ?_
    refine lv_ldc2 (v := 439855772532) hx hb hown (hts _ zw_572) dX12_votes_14 ?_
    obtain ⟨q3, eq3, hf⟩ := zbi hf
    refine z_callV (n := 1) (rest := [.int x1, .ref (ad 12 0 29)]) (st1 := [.int q3.1, .int x1, .ref (ad 12 0 29)]) (c0 := 12) (i0 := 0) (hZ.2.1 (12, 0) (by decide)) (by rfl) S hG hS hZ (fun _ _ h => h) (c_X12_takes l D aC zs A nl ad σ2 439855772532 q3.1 q3.2 eq3) zw_546 zw_547 zw_548 zw_5 zw_549 (by decide +kernel) ⟨rfl, rfl⟩ ⟨(Nat.le_of_ble_eq_true rfl), (Nat.le_of_ble_eq_true rfl)⟩ hl.1 rfl (by rfl) (by rfl) (Nat.le_of_ble_eq_true rfl) dX12_votes_17 ⟨Nat.zero_le _, Nat.zero_le _⟩ (fun H locs hz4 hG hS => ?_)
    refine lv_if_eq (tgt := 27) hx hb dX12_votes_20 (by decide) (fun c5 => ?_) (fun c5 => ?_)
    · have hf := zif_p c5 hf
      refine lv_aload_n hx hb dX12_votes_27 rfl (lv_at hl 0 rfl) ?_
      refine lv_ldc2 (v := 1918987883) hx hb hown (hts _ zw_573) dX12_votes_28 ?_
      obtain ⟨q6, eq6, hf⟩ := zbi hf
      refine z_callV (n := 1) (rest := [.int x1, .ref (ad 12 0 29)]) (st1 := [.int q6.1, .int x1, .ref (ad 12 0 29)]) (c0 := 12) (i0 := 0) (hZ.2.1 (12, 0) (by decide)) (by rfl) S hG hS hZ (fun _ _ h => h) (c_X12_takes l D aC zs A nl ad q3.2 1918987883 q6.1 q6.2 eq6) zw_546 zw_547 zw_548 zw_5 zw_549 (by decide +kernel) ⟨rfl, rfl⟩ ⟨(Nat.le_of_ble_eq_true rfl), (Nat.le_of_ble_eq_true rfl)⟩ hl.1 rfl (by rfl) (by rfl) (Nat.le_of_ble_eq_true rfl) dX12_votes_31 ⟨Nat.zero_le _, Nat.zero_le _⟩ (fun H locs hz7 hG hS => ?_)
      refine lv_if_eq (tgt := 41) hx hb dX12_votes_34 (by decide) (fun c8 => ?_) (fun c8 => ?_)
      · have hf := zif_p c8 hf
        refine lv_aload_n hx hb dX12_votes_41 rfl (lv_at hl 0 rfl) ?_
        refine lv_ldc2 (v := 1885432178) hx hb hown (hts _ zw_574) dX12_votes_42 ?_
        obtain ⟨q9, eq9, hf⟩ := zbi hf
        refine z_callV (n := 1) (rest := [.int x1, .ref (ad 12 0 29)]) (st1 := [.int q9.1, .int x1, .ref (ad 12 0 29)]) (c0 := 12) (i0 := 0) (hZ.2.1 (12, 0) (by decide)) (by rfl) S hG hS hZ (fun _ _ h => h) (c_X12_takes l D aC zs A nl ad q6.2 1885432178 q9.1 q9.2 eq9) zw_546 zw_547 zw_548 zw_5 zw_549 (by decide +kernel) ⟨rfl, rfl⟩ ⟨(Nat.le_of_ble_eq_true rfl), (Nat.le_of_ble_eq_true rfl)⟩ hl.1 rfl (by rfl) (by rfl) (Nat.le_of_ble_eq_true rfl) dX12_votes_45 ⟨Nat.zero_le _, Nat.zero_le _⟩ (fun H locs hz10 hG hS => ?_)
        refine lv_if_eq (tgt := 55) hx hb dX12_votes_48 (by decide) (fun c12 => ?_) (fun c12 => ?_)
        · rw [if_pos c12] at hf
          refine lv_iconst (v := (-1)) hx hb dX12_votes_55 (by decide) ?_
          exact KJ56 x1 (-1) q9.2 H locs ls hG hS (lv_sub hl [0, 1] rfl) hf
        · rw [if_neg c12] at hf
          refine lv_iconst (v := 2) hx hb dX12_votes_51 (by decide) ?_
          refine lv_goto (tgt := 56) hx hb dX12_votes_52 (by decide) ?_
          exact KJ56 x1 2 q9.2 H locs ls hG hS (lv_sub hl [0, 1] rfl) hf
      · have hf := zif_n c8 hf
        refine lv_iconst (v := 1) hx hb dX12_votes_37 (by decide) ?_
        refine lv_goto (tgt := 56) hx hb dX12_votes_38 (by decide) ?_
        exact KJ56 x1 1 q6.2 H locs ls hG hS (lv_sub hl [0, 1] rfl) hf
    · have hf := zif_n c5 hf
      refine lv_iconst (v := 0) hx hb dX12_votes_23 (by decide) ?_
      refine lv_goto (tgt := 56) hx hb dX12_votes_24 (by decide) ?_
      exact KJ56 x1 0 q3.2 H locs ls hG hS (lv_sub hl [0, 1] rfl) hf
  exact hK0 _ _ ls hG hS hl hf
set_option maxRecDepth 100000 in
set_option maxHeartbeats 4000000 in
theorem c_X12_ties (l : Launch) (D : va_G) (aC : Nat → ClassId) (zs : Nat × Nat) (A : Nat → Prop) (nl : zNL) (ad : Nat → Nat → Nat → Nat) (σ : zM) (x1 : Int32) (r : Int32) (σ' : zM)  (hf : f_X12_ties σ x1 = some (r, σ')) : Met l yX12_ties (Cond.code yX12_ties cX12_ties 2 (some .boolean) :: wsL_law) ({ frames := 3, cells := 0, slots := 0, locals := 64 } : Room) (zP D aC zs zfM A nl ad σ [.ref (ad 12 0 0), .int x1]) (zQ (some (.int r)) (fun t => zG D aC A nl ad σ' t t.heap ∧ (r = 0 ∨ r = 1)) A) 0 0 A := by
  refine Met.ofW (cc := cX12_ties) (maxL := 2) (ret := (some .boolean)) (by decide) rfl ?_
  intro p e s m args below meth c s₁ B hml hv
  obtain ⟨rfl, hG, hZ⟩ := hv
  have hx := B.exec
  have hb := B.bytes
  have hr := B.returns
  have hts : ∀ w ∈ wsL_law, w.before ([.ref (ad 12 0 0), .int x1] : List Value).toArray s = true := fun w h => (atoms_spec B.pre) w (List.mem_cons_of_mem _ h)
  have hown : s.vm.findClass RX12 = some m.cls := findClass_of_methodNamed B.named
  have hlocks := B.notSynchronized
  have S : zS p m c cX12_ties 2 s ([.ref (ad 12 0 0), .int x1] : List Value).toArray RX12 := ⟨hx, hb, hml, hown, hts⟩
  have hS : va_S A s.heap s.heap [] := va_S.rf
  have hl := lv_entry ([.ref (ad 12 0 0), .int x1]) (n := 2) (Nat.le_of_ble_eq_true rfl)
  rw [lg_entry_eq]
  generalize (lg_sl ([.ref (ad 12 0 0), .int x1]) ++ List.replicate (2 - (lg_sl ([.ref (ad 12 0 0), .int x1])).length) Slot.unset).toArray = ls at hl ⊢
  have hl : lv_has ls 2 [(0, .ref (ad 12 0 0)), (1, .int x1)] := hl
  generalize hargs : ([.ref (ad 12 0 0), .int x1] : List Value).toArray = args at S hts ⊢
  clear hargs
  have KJ42 : ∀ (t1b42 : Int32) (t2b42 : Int32)  (σb42 : zM) (H : Heap) (locs : List Loc) (ls : Array Slot), zG D aC A nl ad σb42 s H → va_S A s.heap H locs → lv_has ls 2 [(0, .ref (ad 12 0 0)), (1, .int x1)] → (f_X12_ties_B42 σb42 x1 t1b42 t2b42) = some (r, σ') → zWk p l e ({ frames := 3, cells := 0, slots := 0, locals := 64 } : Room) s m args below meth c A (some (.int r)) (fun t => zG D aC A nl ad σ' t t.heap ∧ (r = 0 ∨ r = 1)) H locs (F0 m 42 ls [.int t2b42, .int t1b42, .ref (ad 12 0 29)]) := by
    intro t1b42 t2b42  σb42 H locs ls hG hS hl hf
    unfold f_X12_ties_B42 at hf
    obtain ⟨i10, hi10, hf⟩ := zbi hf
    refine z_iast (c0 := 12) (i0 := 0) (k0 := 28) S hG hS (hZ.2.1 (12, 0) (by decide)) (by decide) rfl hi10 dX12_ties_42 (fun H locs hG hS => ?_)
    obtain ⟨σ11, eσ11, hf⟩ := zlt_s hf
    rw [← eσ11] at hG
    refine lv_aload_n hx hb dX12_ties_43 rfl (lv_at hl 0 rfl) ?_
    refine z_get (c0 := 12) (i0 := 0) (k0 := 28) (T := TX12) (v := .ref (ad 12 0 29)) S hG (hZ.2.1 (12, 0) (by decide)) rfl inlX12 (by decide) rfl zw_240 rfl dX12_ties_44 ?_
    refine lv_iload_n hx hb dX12_ties_47 rfl (lv_at hl 1 rfl) ?_
    obtain ⟨i12, hi12, hf⟩ := zbi hf
    refine z_iald (c0 := 12) (i0 := 0) (k0 := 28) S hG (hZ.2.1 (12, 0) (by decide)) (by decide) rfl hi12 dX12_ties_48 ?_
    refine lv_iconst (v := (-1)) hx hb dX12_ties_49 (by decide) ?_
    refine lv_icmp_eq (tgt := 57) hx hb dX12_ties_50 (by decide) (fun c13 => ?_) (fun c13 => ?_)
    · have hf := zif_p c13 hf
      refine lv_iconst (v := 0) hx hb dX12_ties_57 (by decide) ?_
      obtain ⟨hq1, hq2⟩ := Prod.mk.inj (Option.some.inj hf)
      subst hq1
      subst hq2
      exact z_zret S hG hS hlocks (Or.inl rfl) hr dX12_ties_58
    · have hf := zif_n c13 hf
      refine lv_iconst (v := 1) hx hb dX12_ties_53 (by decide) ?_
      refine lv_goto (tgt := 58) hx hb dX12_ties_54 (by decide) ?_
      obtain ⟨hq1, hq2⟩ := Prod.mk.inj (Option.some.inj hf)
      subst hq1
      subst hq2
      exact z_zret S hG hS hlocks (Or.inr rfl) hr dX12_ties_58
  have hK0 : ∀ (H : Heap) (locs : List Loc) (ls : Array Slot), zG D aC A nl ad σ s H → va_S A s.heap H locs → lv_has ls 2 [(0, .ref (ad 12 0 0)), (1, .int x1)] → f_X12_ties σ x1 = some (r, σ') → zWk p l e ({ frames := 3, cells := 0, slots := 0, locals := 64 } : Room) s m args below meth c A (some (.int r)) (fun t => zG D aC A nl ad σ' t t.heap ∧ (r = 0 ∨ r = 1)) H locs (F0 m 0 ls []) := by
    intro H locs ls hG hS hl hf
    unfold f_X12_ties at hf
    refine lv_aload_n hx hb dX12_ties_0 rfl (lv_at hl 0 rfl) ?_
    refine z_get (c0 := 12) (i0 := 0) (k0 := 27) (T := TX12) (v := .ref (ad 12 0 28)) S hG (hZ.2.1 (12, 0) (by decide)) rfl inlX12 (by decide) rfl zw_239 rfl dX12_ties_1 ?_
    refine lv_iload_n hx hb dX12_ties_4 rfl (lv_at hl 1 rfl) ?_
    refine lv_bipush (v := 7) hx hb dX12_ties_5 (by decide) ?_
    obtain ⟨i1, hi1, hf⟩ := zbi hf
    refine z_iast (c0 := 12) (i0 := 0) (k0 := 27) S hG hS (hZ.2.1 (12, 0) (by decide)) (by decide) rfl hi1 dX12_ties_7 (fun H locs hG hS => ?_)
    obtain ⟨σ2, eσ2, hf⟩ := zlt_s hf
    rw [← eσ2] at hG
    refine lv_aload_n hx hb dX12_ties_8 rfl (lv_at hl 0 rfl) ?_
    refine z_get (c0 := 12) (i0 := 0) (k0 := 28) (T := TX12) (v := .ref (ad 12 0 29)) S hG (hZ.2.1 (12, 0) (by decide)) rfl inlX12 (by decide) rfl zw_240 rfl dX12_ties_9 ?_
    refine lv_iload_n hx hb dX12_ties_12 rfl (lv_at hl 1 rfl) ?_
    refine lv_aload_n hx hb dX12_ties_13 rfl (lv_at hl 0 rfl) ?_
    refine lv_ldc2 (v := 1751474532) hx hb hown (hts _ zw_575) dX12_ties_14 ?_
    obtain ⟨q3, eq3, hf⟩ := zbi hf
    refine z_callV (n := 1) (rest := [.int x1, .ref (ad 12 0 29)]) (st1 := [.int q3.1, .int x1, .ref (ad 12 0 29)]) (c0 := 12) (i0 := 0) (hZ.2.1 (12, 0) (by decide)) (by rfl) S hG hS hZ (fun _ _ h => h) (c_X12_takes l D aC zs A nl ad σ2 1751474532 q3.1 q3.2 eq3) zw_546 zw_547 zw_548 zw_5 zw_549 (by decide +kernel) ⟨rfl, rfl⟩ ⟨(Nat.le_of_ble_eq_true rfl), (Nat.le_of_ble_eq_true rfl)⟩ hl.1 rfl (by rfl) (by rfl) (Nat.le_of_ble_eq_true rfl) dX12_ties_17 ⟨Nat.zero_le _, Nat.zero_le _⟩ (fun H locs hz4 hG hS => ?_)
    refine lv_if_eq (tgt := 27) hx hb dX12_ties_20 (by decide) (fun c5 => ?_) (fun c5 => ?_)
    · have hf := zif_p c5 hf
      refine lv_aload_n hx hb dX12_ties_27 rfl (lv_at hl 0 rfl) ?_
      refine lv_ldc2 (v := 121450625394034) hx hb hown (hts _ zw_576) dX12_ties_28 ?_
      obtain ⟨q6, eq6, hf⟩ := zbi hf
      refine z_callV (n := 1) (rest := [.int x1, .ref (ad 12 0 29)]) (st1 := [.int q6.1, .int x1, .ref (ad 12 0 29)]) (c0 := 12) (i0 := 0) (hZ.2.1 (12, 0) (by decide)) (by rfl) S hG hS hZ (fun _ _ h => h) (c_X12_takes l D aC zs A nl ad q3.2 121450625394034 q6.1 q6.2 eq6) zw_546 zw_547 zw_548 zw_5 zw_549 (by decide +kernel) ⟨rfl, rfl⟩ ⟨(Nat.le_of_ble_eq_true rfl), (Nat.le_of_ble_eq_true rfl)⟩ hl.1 rfl (by rfl) (by rfl) (Nat.le_of_ble_eq_true rfl) dX12_ties_31 ⟨Nat.zero_le _, Nat.zero_le _⟩ (fun H locs hz7 hG hS => ?_)
      refine lv_if_eq (tgt := 41) hx hb dX12_ties_34 (by decide) (fun c9 => ?_) (fun c9 => ?_)
      · rw [if_pos c9] at hf
        refine lv_iconst (v := (-1)) hx hb dX12_ties_41 (by decide) ?_
        exact KJ42 x1 (-1) q6.2 H locs ls hG hS (lv_sub hl [0, 1] rfl) hf
      · rw [if_neg c9] at hf
        refine lv_iconst (v := 1) hx hb dX12_ties_37 (by decide) ?_
        refine lv_goto (tgt := 42) hx hb dX12_ties_38 (by decide) ?_
        exact KJ42 x1 1 q6.2 H locs ls hG hS (lv_sub hl [0, 1] rfl) hf
    · have hf := zif_n c5 hf
      refine lv_iconst (v := 0) hx hb dX12_ties_23 (by decide) ?_
      refine lv_goto (tgt := 42) hx hb dX12_ties_24 (by decide) ?_
      exact KJ42 x1 0 q3.2 H locs ls hG hS (lv_sub hl [0, 1] rfl) hf
  exact hK0 _ _ ls hG hS hl hf
set_option maxRecDepth 100000 in
set_option maxHeartbeats 4000000 in
theorem c_X12_fault (l : Launch) (D : va_G) (aC : Nat → ClassId) (zs : Nat × Nat) (A : Nat → Prop) (nl : zNL) (ad : Nat → Nat → Nat → Nat) (σ : zM)  (r : Int32)  (hf : f_X12_fault σ = r) : Met l yX12_fault (Cond.code yX12_fault cX12_fault 1 (some .int) :: wsL_law) ({ frames := 0, cells := 0, slots := 0, locals := 0 } : Room) (zP D aC zs zfM A nl ad σ [.ref (ad 12 0 0)]) (zQ (some (.int r)) (fun t => zG D aC A nl ad σ t t.heap ∧ True) A) 0 0 A := by
  refine Met.ofW (cc := cX12_fault) (maxL := 1) (ret := (some .int)) (by decide) rfl ?_
  intro p e s m args below meth c s₁ B hml hv
  obtain ⟨rfl, hG, hZ⟩ := hv
  have hx := B.exec
  have hb := B.bytes
  have hr := B.returns
  have hts : ∀ w ∈ wsL_law, w.before ([.ref (ad 12 0 0)] : List Value).toArray s = true := fun w h => (atoms_spec B.pre) w (List.mem_cons_of_mem _ h)
  have hown : s.vm.findClass RX12 = some m.cls := findClass_of_methodNamed B.named
  have hlocks := B.notSynchronized
  have S : zS p m c cX12_fault 1 s ([.ref (ad 12 0 0)] : List Value).toArray RX12 := ⟨hx, hb, hml, hown, hts⟩
  have hS : va_S A s.heap s.heap [] := va_S.rf
  have hl := lv_entry ([.ref (ad 12 0 0)]) (n := 1) (Nat.le_of_ble_eq_true rfl)
  rw [lg_entry_eq]
  generalize (lg_sl ([.ref (ad 12 0 0)]) ++ List.replicate (1 - (lg_sl ([.ref (ad 12 0 0)])).length) Slot.unset).toArray = ls at hl ⊢
  have hl : lv_has ls 1 [(0, .ref (ad 12 0 0))] := hl
  generalize hargs : ([.ref (ad 12 0 0)] : List Value).toArray = args at S hts ⊢
  clear hargs
  have hK0 : ∀ (H : Heap) (locs : List Loc) (ls : Array Slot), zG D aC A nl ad σ s H → va_S A s.heap H locs → lv_has ls 1 [(0, .ref (ad 12 0 0))] → f_X12_fault σ = r → zWk p l e ({ frames := 0, cells := 0, slots := 0, locals := 0 } : Room) s m args below meth c A (some (.int r)) (fun t => zG D aC A nl ad σ t t.heap ∧ True) H locs (F0 m 0 ls []) := by
    intro H locs ls hG hS hl hf
    unfold f_X12_fault at hf
    refine lv_aload_n hx hb dX12_fault_0 rfl (lv_at hl 0 rfl) ?_
    refine z_get (c0 := 12) (i0 := 0) (k0 := 24) (T := TX12) (v := .int (zI σ 12 0 24)) S hG (hZ.2.1 (12, 0) (by decide)) rfl inlX12 (by decide) rfl zw_236 rfl dX12_fault_1 ?_
    have hq := hf
    subst hq
    exact z_iret S hG hS hlocks trivial hr dX12_fault_4
  exact hK0 _ _ ls hG hS hl hf
set_option maxRecDepth 100000 in
set_option maxHeartbeats 4000000 in
theorem c_X12_binds (l : Launch) (D : va_G) (aC : Nat → ClassId) (zs : Nat × Nat) (A : Nat → Prop) (nl : zNL) (ad : Nat → Nat → Nat → Nat) (σ : zM) (x1 : Int32) (r : Int32)  (hf : f_X12_binds σ x1 = some r) : Met l yX12_binds (Cond.code yX12_binds cX12_binds 2 (some .int) :: wsL_law) ({ frames := 2, cells := 0, slots := 0, locals := 42 } : Room) (zP D aC zs zfM A nl ad σ [.ref (ad 12 0 0), .int x1]) (zQ (some (.int r)) (fun t => zG D aC A nl ad σ t t.heap ∧ True) A) 0 0 A := by
  refine Met.ofW (cc := cX12_binds) (maxL := 2) (ret := (some .int)) (by decide) rfl ?_
  intro p e s m args below meth c s₁ B hml hv
  obtain ⟨rfl, hG, hZ⟩ := hv
  have hx := B.exec
  have hb := B.bytes
  have hr := B.returns
  have hts : ∀ w ∈ wsL_law, w.before ([.ref (ad 12 0 0), .int x1] : List Value).toArray s = true := fun w h => (atoms_spec B.pre) w (List.mem_cons_of_mem _ h)
  have hown : s.vm.findClass RX12 = some m.cls := findClass_of_methodNamed B.named
  have hlocks := B.notSynchronized
  have S : zS p m c cX12_binds 2 s ([.ref (ad 12 0 0), .int x1] : List Value).toArray RX12 := ⟨hx, hb, hml, hown, hts⟩
  have hS : va_S A s.heap s.heap [] := va_S.rf
  have hl := lv_entry ([.ref (ad 12 0 0), .int x1]) (n := 2) (Nat.le_of_ble_eq_true rfl)
  rw [lg_entry_eq]
  generalize (lg_sl ([.ref (ad 12 0 0), .int x1]) ++ List.replicate (2 - (lg_sl ([.ref (ad 12 0 0), .int x1])).length) Slot.unset).toArray = ls at hl ⊢
  have hl : lv_has ls 2 [(0, .ref (ad 12 0 0)), (1, .int x1)] := hl
  generalize hargs : ([.ref (ad 12 0 0), .int x1] : List Value).toArray = args at S hts ⊢
  clear hargs
  have hK0 : ∀ (H : Heap) (locs : List Loc) (ls : Array Slot), zG D aC A nl ad σ s H → va_S A s.heap H locs → lv_has ls 2 [(0, .ref (ad 12 0 0)), (1, .int x1)] → f_X12_binds σ x1 = some r → zWk p l e ({ frames := 2, cells := 0, slots := 0, locals := 42 } : Room) s m args below meth c A (some (.int r)) (fun t => zG D aC A nl ad σ t t.heap ∧ True) H locs (F0 m 0 ls []) := by
    intro H locs ls hG hS hl hf
    unfold f_X12_binds at hf
    refine lv_iload_n hx hb dX12_binds_0 rfl (lv_at hl 1 rfl) ?_
    refine z_callS (n := 1) (rest := []) (st1 := [.int (f_X12_isDay x1)]) S hG hS hZ (fun _ _ h => h) (c_X12_isDay l D aC zs A nl ad σ x1 (f_X12_isDay x1) rfl) zw_685 zw_686 zw_5 zw_687 (by decide +kernel) ⟨rfl, rfl⟩ ⟨(Nat.le_of_ble_eq_true rfl), (Nat.le_of_ble_eq_true rfl)⟩ hl.1 rfl (by rfl) (by rfl) (Nat.le_of_ble_eq_true rfl) dX12_binds_1 ⟨Nat.zero_le _, Nat.zero_le _⟩ (fun H locs hz1 hG hS => ?_)
    refine lv_if_eq (tgt := 15) hx hb dX12_binds_4 (by decide) (fun c2 => ?_) (fun c2 => ?_)
    · have hf := zif_p c2 hf
      refine lv_iconst (v := (-1)) hx hb dX12_binds_15 (by decide) ?_
      have hq := (Option.some.inj hf)
      subst hq
      exact z_iret S hG hS hlocks trivial hr dX12_binds_16
    · have hf := zif_n c2 hf
      refine lv_aload_n hx hb dX12_binds_7 rfl (lv_at hl 0 rfl) ?_
      refine lv_iload_n hx hb dX12_binds_8 rfl (lv_at hl 1 rfl) ?_
      obtain ⟨r3, er3, hf⟩ := zbi hf
      refine z_callV (n := 1) (rest := []) (st1 := [.int r3]) (c0 := 12) (i0 := 0) (hZ.2.1 (12, 0) (by decide)) (by rfl) S hG hS hZ (fun _ _ h => h) (c_X12_bindsOn l D aC zs A nl ad σ x1 r3 er3) zw_688 zw_689 zw_690 zw_5 zw_691 (by decide +kernel) ⟨rfl, rfl⟩ ⟨(Nat.le_of_ble_eq_true rfl), (Nat.le_of_ble_eq_true rfl)⟩ hl.1 rfl (by rfl) (by rfl) (Nat.le_of_ble_eq_true rfl) dX12_binds_9 ⟨Nat.zero_le _, Nat.zero_le _⟩ (fun H locs hz4 hG hS => ?_)
      refine lv_goto (tgt := 16) hx hb dX12_binds_12 (by decide) ?_
      have hq := (Option.some.inj hf)
      subst hq
      exact z_iret S hG hS hlocks trivial hr dX12_binds_16
  exact hK0 _ _ ls hG hS hl hf
set_option maxRecDepth 100000 in
set_option maxHeartbeats 4000000 in
theorem c_X12_can (l : Launch) (D : va_G) (aC : Nat → ClassId) (zs : Nat × Nat) (A : Nat → Prop) (nl : zNL) (ad : Nat → Nat → Nat → Nat) (σ : zM) (x1 : Int32) (r : Int32)  (hf : f_X12_can σ x1 = some r) : Met l yX12_can (Cond.code yX12_can cX12_can 10 (some .int) :: wsL_law) ({ frames := 1, cells := 0, slots := 0, locals := 24 } : Room) (zP D aC zs zfM A nl ad σ [.ref (ad 12 0 0), .int x1]) (zQ (some (.int r)) (fun t => zG D aC A nl ad σ t t.heap ∧ True) A) 0 0 A := by
  refine Met.ofW (cc := cX12_can) (maxL := 10) (ret := (some .int)) (by decide) rfl ?_
  intro p e s m args below meth c s₁ B hml hv
  obtain ⟨rfl, hG, hZ⟩ := hv
  have hx := B.exec
  have hb := B.bytes
  have hr := B.returns
  have hts : ∀ w ∈ wsL_law, w.before ([.ref (ad 12 0 0), .int x1] : List Value).toArray s = true := fun w h => (atoms_spec B.pre) w (List.mem_cons_of_mem _ h)
  have hown : s.vm.findClass RX12 = some m.cls := findClass_of_methodNamed B.named
  have hlocks := B.notSynchronized
  have S : zS p m c cX12_can 10 s ([.ref (ad 12 0 0), .int x1] : List Value).toArray RX12 := ⟨hx, hb, hml, hown, hts⟩
  have hS : va_S A s.heap s.heap [] := va_S.rf
  have hl := lv_entry ([.ref (ad 12 0 0), .int x1]) (n := 10) (Nat.le_of_ble_eq_true rfl)
  rw [lg_entry_eq]
  generalize (lg_sl ([.ref (ad 12 0 0), .int x1]) ++ List.replicate (10 - (lg_sl ([.ref (ad 12 0 0), .int x1])).length) Slot.unset).toArray = ls at hl ⊢
  have hl : lv_has ls 10 [(0, .ref (ad 12 0 0)), (1, .int x1)] := hl
  generalize hargs : ([.ref (ad 12 0 0), .int x1] : List Value).toArray = args at S hts ⊢
  clear hargs
  have KJ196 : ∀ (y2b196 : Int64) (y4b196 : Int64) (y6b196 : Int32)   (H : Heap) (locs : List Loc) (ls : Array Slot), zG D aC A nl ad σ s H → va_S A s.heap H locs → lv_has ls 10 [(0, .ref (ad 12 0 0)), (1, .int x1), (2, .long y2b196), (4, .long y4b196), (6, .int y6b196)] → (f_X12_can_B196 σ x1 y2b196 y4b196 y6b196) = some r → zWk p l e ({ frames := 1, cells := 0, slots := 0, locals := 24 } : Room) s m args below meth c A (some (.int r)) (fun t => zG D aC A nl ad σ t t.heap ∧ True) H locs (F0 m 196 ls []) := by
    intro y2b196 y4b196 y6b196   H locs ls hG hS hl hf
    unfold f_X12_can_B196 at hf
    refine lv_lload_n hx hb dX12_can_196 rfl (lv_at hl 2 rfl) ?_
    refine lv_ldc2 (v := 160) hx hb hown (hts _ zw_737) dX12_can_197 ?_
    refine W.lcmp hx hb dX12_can_200 ?_
    refine lv_if_le (tgt := 208) hx hb dX12_can_201 (by decide) (fun c3 => ?_) (fun c3 => ?_)
    · have hf := zif_p ((lg_cmp_le y2b196 160).mp c3) hf
      refine lv_iload hx hb dX12_can_208 (lv_at hl 4 rfl) ?_
      refine lv_iconst (v := (-1)) hx hb dX12_can_210 (by decide) ?_
      refine lv_icmp_eq (tgt := 227) hx hb dX12_can_211 (by decide) (fun c4 => ?_) (fun c4 => ?_)
      · have hf := zif_p c4 hf
        refine lv_iconst (v := 0) hx hb dX12_can_227 (by decide) ?_
        have hq := (Option.some.inj hf)
        subst hq
        exact z_iret S hG hS hlocks trivial hr dX12_can_228
      · have hf := zif_n c4 hf
        refine lv_lload hx hb dX12_can_214 (lv_at hl 3 rfl) ?_
        refine lv_iload hx hb dX12_can_216 (lv_at hl 4 rfl) ?_
        refine lv_i2l (v := y6b196.toInt64) hx hb dX12_can_218 rfl ?_
        refine W.lcmp hx hb dX12_can_219 ?_
        refine lv_if_le (tgt := 227) hx hb dX12_can_220 (by decide) (fun c5 => ?_) (fun c5 => ?_)
        · have hf := zif_p ((lg_cmp_le y4b196 y6b196.toInt64).mp c5) hf
          refine lv_iconst (v := 0) hx hb dX12_can_227 (by decide) ?_
          have hq := (Option.some.inj hf)
          subst hq
          exact z_iret S hG hS hlocks trivial hr dX12_can_228
        · have hf := zif_n (fun h => c5 ((lg_cmp_le y4b196 y6b196.toInt64).mpr h)) hf
          refine lv_iconst (v := 2) hx hb dX12_can_223 (by decide) ?_
          refine lv_goto (tgt := 228) hx hb dX12_can_224 (by decide) ?_
          have hq := (Option.some.inj hf)
          subst hq
          exact z_iret S hG hS hlocks trivial hr dX12_can_228
    · have hf := zif_n (fun h => c3 ((lg_cmp_le y2b196 160).mpr h)) hf
      refine lv_iconst (v := 1) hx hb dX12_can_204 (by decide) ?_
      refine lv_goto (tgt := 228) hx hb dX12_can_205 (by decide) ?_
      have hq := (Option.some.inj hf)
      subst hq
      exact z_iret S hG hS hlocks trivial hr dX12_can_228
  have KJ121 : ∀ (y2b121 : Int64) (y4b121 : Int64) (y6b121 : Int32)   (H : Heap) (locs : List Loc) (ls : Array Slot), zG D aC A nl ad σ s H → va_S A s.heap H locs → lv_has ls 10 [(0, .ref (ad 12 0 0)), (1, .int x1), (2, .long y2b121), (4, .long y4b121), (6, .int y6b121)] → (f_X12_can_B121 σ x1 y2b121 y4b121 y6b121) = some r → zWk p l e ({ frames := 1, cells := 0, slots := 0, locals := 24 } : Room) s m args below meth c A (some (.int r)) (fun t => zG D aC A nl ad σ t t.heap ∧ True) H locs (F0 m 121 ls []) := by
    intro y2b121 y4b121 y6b121   H locs ls hG hS hl hf
    unfold f_X12_can_B121 at hf
    refine lv_bipush (v := 40) hx hb dX12_can_121 (by decide) ?_
    refine lv_iload_n hx hb dX12_can_123 rfl (lv_at hl 1 rfl) ?_
    refine lv_imul hx hb dX12_can_124 ?_
    refine lv_istore (lv' := [(7, .int (40 * x1)), (0, .ref (ad 12 0 0)), (1, .int x1), (2, .long y2b121), (4, .long y4b121), (6, .int y6b121)]) hx hb dX12_can_125 hl (by decide) rfl (fun ls hl => ?_)
    obtain ⟨t127, hw127, hfo127⟩ := zbi hf
    have KL127 : ∀ (n : Nat) (y6l127 : Int32) (y7l127 : Int32) (H : Heap) (locs : List Loc) (ls : Array Slot), zG D aC A nl ad σ s H → va_S A s.heap H locs → lv_has ls 10 [(0, .ref (ad 12 0 0)), (1, .int x1), (2, .long y2b121), (4, .long y4b121), (6, .int y6l127), (7, .int y7l127)] → zwh (fun (q : (Int32 × Int32)) => f_X12_can_L127 σ x1 y2b121 y4b121 q.1 q.2) n (y6l127, y7l127) = some t127 → zWk p l e ({ frames := 1, cells := 0, slots := 0, locals := 24 } : Room) s m args below meth c A (some (.int r)) (fun t => zG D aC A nl ad σ t t.heap ∧ True) H locs (F0 m 127 ls []) := by
      intro n
      induction n with
      | zero =>
        intro y6l127 y7l127 H locs ls hG hS hl hw
        exact (zwh_0 hw).elim
      | succ n ih127 =>
        intro y6l127 y7l127 H locs ls hG hS hl hw
        obtain ⟨rr127, hf, hk127⟩ := zwh_u hw
        have hf : f_X12_can_L127 σ x1 y2b121 y4b121 y6l127 y7l127 = some rr127 := hf
        unfold f_X12_can_L127 at hf
        have KJ190_127 : ∀ (y6b190 : Int32) (y7b190 : Int32)   (H : Heap) (locs : List Loc) (ls : Array Slot), zG D aC A nl ad σ s H → va_S A s.heap H locs → lv_has ls 10 [(0, .ref (ad 12 0 0)), (1, .int x1), (2, .long y2b121), (4, .long y4b121), (6, .int y6b190), (7, .int y7b190)] → (f_X12_can_B190_127 σ x1 y2b121 y4b121 y6b190 y7b190) = some rr127 → zWk p l e ({ frames := 1, cells := 0, slots := 0, locals := 24 } : Room) s m args below meth c A (some (.int r)) (fun t => zG D aC A nl ad σ t t.heap ∧ True) H locs (F0 m 190 ls []) := by
          intro y6b190 y7b190   H locs ls hG hS hl hf
          unfold f_X12_can_B190_127 at hf
          refine lv_iinc (v := (y7b190 + 1)) (lv' := [(7, .int (y7b190 + 1)), (0, .ref (ad 12 0 0)), (1, .int x1), (2, .long y2b121), (4, .long y4b121), (6, .int y6b190)]) hx hb dX12_can_190 hl (k := 5) rfl rfl (by decide) rfl (fun ls hl => ?_)
          refine lv_goto (tgt := 127) hx hb dX12_can_193 (by decide) ?_
          cases hf
          exact ih127 y6b190 (y7b190 + 1) H locs ls hG hS (lv_sub hl [1, 2, 3, 4, 5, 0] rfl) hk127
        have KJ188_127 : ∀ (y7b188 : Int32) (t0b188 : Int32)   (H : Heap) (locs : List Loc) (ls : Array Slot), zG D aC A nl ad σ s H → va_S A s.heap H locs → lv_has ls 10 [(0, .ref (ad 12 0 0)), (1, .int x1), (2, .long y2b121), (4, .long y4b121), (7, .int y7b188)] → (f_X12_can_B188_127 σ x1 y2b121 y4b121 y7b188 t0b188) = some rr127 → zWk p l e ({ frames := 1, cells := 0, slots := 0, locals := 24 } : Room) s m args below meth c A (some (.int r)) (fun t => zG D aC A nl ad σ t t.heap ∧ True) H locs (F0 m 188 ls [.int t0b188]) := by
          intro y7b188 t0b188   H locs ls hG hS hl hf
          unfold f_X12_can_B188_127 at hf
          refine lv_istore (lv' := [(6, .int t0b188), (0, .ref (ad 12 0 0)), (1, .int x1), (2, .long y2b121), (4, .long y4b121), (7, .int y7b188)]) hx hb dX12_can_188 hl (by decide) rfl (fun ls hl => ?_)
          exact KJ190_127 t0b188 y7b188 H locs ls hG hS (lv_sub hl [1, 2, 3, 4, 0, 5] rfl) hf
        refine lv_iload_n hx hb dX12_can_127 rfl (lv_at hl 1 rfl) ?_
        refine lv_iconst (v := (-1)) hx hb dX12_can_128 (by decide) ?_
        refine lv_icmp_eq (tgt := 196) hx hb dX12_can_129 (by decide) (fun c13 => ?_) (fun c13 => ?_)
        · have hf := zif_p c13 hf
          cases hf
          have hk127 : (y6l127 : Int32) = t127 := hk127
          have hf := hfo127
          rw [← hk127] at hf
          have hf : (f_X12_can_B196 σ x1 y2b121 y4b121 y6l127) = some r := hf
          exact KJ196 y2b121 y4b121 y6l127 H locs ls hG hS (lv_sub hl [0, 1, 2, 3, 4] rfl) hf
        · have hf := zif_n c13 hf
          refine lv_iload hx hb dX12_can_132 (lv_at hl 5 rfl) ?_
          refine lv_bipush (v := 40) hx hb dX12_can_134 (by decide) ?_
          refine lv_iload_n hx hb dX12_can_136 rfl (lv_at hl 1 rfl) ?_
          refine lv_imul hx hb dX12_can_137 ?_
          refine lv_aload_n hx hb dX12_can_138 rfl (lv_at hl 0 rfl) ?_
          refine z_get (c0 := 12) (i0 := 0) (k0 := 25) (T := TX12) (v := .ref (ad 12 0 26)) S hG (hZ.2.1 (12, 0) (by decide)) rfl inlX12 (by decide) rfl zw_237 rfl dX12_can_139 ?_
          refine lv_iload_n hx hb dX12_can_142 rfl (lv_at hl 1 rfl) ?_
          obtain ⟨i14, hi14, hf⟩ := zbi hf
          refine z_iald (c0 := 12) (i0 := 0) (k0 := 25) S hG (hZ.2.1 (12, 0) (by decide)) (by decide) rfl hi14 dX12_can_143 ?_
          refine lv_iadd hx hb dX12_can_144 ?_
          refine lv_icmp_ge (tgt := 196) hx hb dX12_can_145 (by decide) (fun c15 => ?_) (fun c15 => ?_)
          · have hf := zif_p c15 hf
            cases hf
            have hk127 : (y6l127 : Int32) = t127 := hk127
            have hf := hfo127
            rw [← hk127] at hf
            have hf : (f_X12_can_B196 σ x1 y2b121 y4b121 y6l127) = some r := hf
            exact KJ196 y2b121 y4b121 y6l127 H locs ls hG hS (lv_sub hl [0, 1, 2, 3, 4] rfl) hf
          · have hf := zif_n c15 hf
            refine lv_aload_n hx hb dX12_can_148 rfl (lv_at hl 0 rfl) ?_
            refine z_get (c0 := 12) (i0 := 0) (k0 := 27) (T := TX12) (v := .ref (ad 12 0 28)) S hG (hZ.2.1 (12, 0) (by decide)) rfl inlX12 (by decide) rfl zw_239 rfl dX12_can_149 ?_
            refine lv_iload hx hb dX12_can_152 (lv_at hl 5 rfl) ?_
            obtain ⟨i16, hi16, hf⟩ := zbi hf
            refine z_iald (c0 := 12) (i0 := 0) (k0 := 27) S hG (hZ.2.1 (12, 0) (by decide)) (by decide) rfl hi16 dX12_can_154 ?_
            refine lv_bipush (v := 15) hx hb dX12_can_155 (by decide) ?_
            refine lv_icmp_ne (tgt := 190) hx hb dX12_can_157 (by decide) (fun c17 => ?_) (fun c17 => ?_)
            · have hf := zif_n c17 hf
              exact KJ190_127 y6l127 y7l127 H locs ls hG hS (lv_sub hl [0, 1, 2, 3, 4, 5] rfl) hf
            · have hf := zif_p c17 hf
              refine lv_iload hx hb dX12_can_160 (lv_at hl 4 rfl) ?_
              refine lv_iconst (v := (-1)) hx hb dX12_can_162 (by decide) ?_
              refine lv_icmp_ne (tgt := 176) hx hb dX12_can_163 (by decide) (fun c18 => ?_) (fun c18 => ?_)
              · have hf := zif_n c18 hf
                refine lv_iload hx hb dX12_can_176 (lv_at hl 4 rfl) ?_
                refine lv_aload_n hx hb dX12_can_178 rfl (lv_at hl 0 rfl) ?_
                refine z_get (c0 := 12) (i0 := 0) (k0 := 28) (T := TX12) (v := .ref (ad 12 0 29)) S hG (hZ.2.1 (12, 0) (by decide)) rfl inlX12 (by decide) rfl zw_240 rfl dX12_can_179 ?_
                refine lv_iload hx hb dX12_can_182 (lv_at hl 5 rfl) ?_
                obtain ⟨i19, hi19, hf⟩ := zbi hf
                refine z_iald (c0 := 12) (i0 := 0) (k0 := 28) S hG (hZ.2.1 (12, 0) (by decide)) (by decide) rfl hi19 dX12_can_184 ?_
                refine z_mmin (v := (zmin y6l127 (zA σ 12 0 28 i19))) S hl zw_736 zw_679 zw_91 zw_680 (Nat.le_of_ble_eq_true rfl) (Nat.le_of_ble_eq_true rfl) (Nat.le_of_ble_eq_true rfl) (Nat.zero_le _) (Nat.zero_le _) rfl dX12_can_185 ?_
                exact KJ188_127 y7l127 (zmin y6l127 (zA σ 12 0 28 i19)) H locs ls hG hS (lv_sub hl [0, 1, 2, 3, 5] rfl) hf
              · have hf := zif_p c18 hf
                refine lv_aload_n hx hb dX12_can_166 rfl (lv_at hl 0 rfl) ?_
                refine z_get (c0 := 12) (i0 := 0) (k0 := 28) (T := TX12) (v := .ref (ad 12 0 29)) S hG (hZ.2.1 (12, 0) (by decide)) rfl inlX12 (by decide) rfl zw_240 rfl dX12_can_167 ?_
                refine lv_iload hx hb dX12_can_170 (lv_at hl 5 rfl) ?_
                obtain ⟨i20, hi20, hf⟩ := zbi hf
                refine z_iald (c0 := 12) (i0 := 0) (k0 := 28) S hG (hZ.2.1 (12, 0) (by decide)) (by decide) rfl hi20 dX12_can_172 ?_
                refine lv_goto (tgt := 188) hx hb dX12_can_173 (by decide) ?_
                exact KJ188_127 y7l127 (zA σ 12 0 28 i20) H locs ls hG hS (lv_sub hl [0, 1, 2, 3, 5] rfl) hf
    exact KL127 zFu y6b121 (40 * x1) H locs ls hG hS (lv_sub hl [1, 2, 3, 4, 5, 0] rfl) hw127
  have hK0 : ∀ (H : Heap) (locs : List Loc) (ls : Array Slot), zG D aC A nl ad σ s H → va_S A s.heap H locs → lv_has ls 10 [(0, .ref (ad 12 0 0)), (1, .int x1)] → f_X12_can σ x1 = some r → zWk p l e ({ frames := 1, cells := 0, slots := 0, locals := 24 } : Room) s m args below meth c A (some (.int r)) (fun t => zG D aC A nl ad σ t t.heap ∧ True) H locs (F0 m 0 ls []) := by
    intro H locs ls hG hS hl hf
    unfold f_X12_can at hf
    refine lv_lconst (v := 0) hx hb dX12_can_0 (by decide) ?_
    refine lv_lstore_n (lv' := [(2, .long 0), (0, .ref (ad 12 0 0)), (1, .int x1)]) hx hb dX12_can_1 rfl hl (by decide) rfl (fun ls hl => ?_)
    refine lv_lconst (v := 0) hx hb dX12_can_2 (by decide) ?_
    refine lv_lstore (lv' := [(4, .long 0), (2, .long 0), (0, .ref (ad 12 0 0)), (1, .int x1)]) hx hb dX12_can_3 hl (by decide) rfl (fun ls hl => ?_)
    refine lv_iconst (v := (-1)) hx hb dX12_can_5 (by decide) ?_
    refine lv_istore (lv' := [(6, .int (-1)), (4, .long 0), (2, .long 0), (0, .ref (ad 12 0 0)), (1, .int x1)]) hx hb dX12_can_6 hl (by decide) rfl (fun ls hl => ?_)
    refine lv_iconst (v := 1) hx hb dX12_can_8 (by decide) ?_
    refine lv_istore (lv' := [(7, .int 1), (6, .int (-1)), (4, .long 0), (2, .long 0), (0, .ref (ad 12 0 0)), (1, .int x1)]) hx hb dX12_can_9 hl (by decide) rfl (fun ls hl => ?_)
    obtain ⟨t11, hw11, hfo11⟩ := zbi hf
    have KL11 : ∀ (n : Nat) (y2l11 : Int64) (y4l11 : Int64) (y7l11 : Int32) (H : Heap) (locs : List Loc) (ls : Array Slot), zG D aC A nl ad σ s H → va_S A s.heap H locs → lv_has ls 10 [(0, .ref (ad 12 0 0)), (1, .int x1), (6, .int (-1)), (2, .long y2l11), (4, .long y4l11), (7, .int y7l11)] → zwh (fun (q : (Int64 × Int64 × Int32)) => f_X12_can_L11 σ x1 (-1) q.1 q.2.1 q.2.2) n (y2l11, y4l11, y7l11) = some t11 → zWk p l e ({ frames := 1, cells := 0, slots := 0, locals := 24 } : Room) s m args below meth c A (some (.int r)) (fun t => zG D aC A nl ad σ t t.heap ∧ True) H locs (F0 m 11 ls []) := by
      intro n
      induction n with
      | zero =>
        intro y2l11 y4l11 y7l11 H locs ls hG hS hl hw
        exact (zwh_0 hw).elim
      | succ n ih11 =>
        intro y2l11 y4l11 y7l11 H locs ls hG hS hl hw
        obtain ⟨rr11, hf, hk11⟩ := zwh_u hw
        have hf : f_X12_can_L11 σ x1 (-1) y2l11 y4l11 y7l11 = some rr11 := hf
        unfold f_X12_can_L11 at hf
        have KJ92_11 : ∀ (y2b92 : Int64) (y4b92 : Int64) (y7b92 : Int32) (y8b92 : Int32)   (H : Heap) (locs : List Loc) (ls : Array Slot), zG D aC A nl ad σ s H → va_S A s.heap H locs → lv_has ls 10 [(0, .ref (ad 12 0 0)), (1, .int x1), (2, .long y2b92), (4, .long y4b92), (6, .int (-1)), (7, .int y7b92), (8, .int y8b92)] → (f_X12_can_B92_11 σ x1 y2b92 y4b92 (-1) y7b92 y8b92) = some rr11 → zWk p l e ({ frames := 1, cells := 0, slots := 0, locals := 24 } : Room) s m args below meth c A (some (.int r)) (fun t => zG D aC A nl ad σ t t.heap ∧ True) H locs (F0 m 92 ls []) := by
          intro y2b92 y4b92 y7b92 y8b92   H locs ls hG hS hl hf
          unfold f_X12_can_B92_11 at hf
          refine lv_lload_n hx hb dX12_can_92 rfl (lv_at hl 2 rfl) ?_
          refine lv_iload hx hb dX12_can_93 (lv_at hl 6 rfl) ?_
          refine lv_i2l (v := y8b92.toInt64) hx hb dX12_can_95 rfl ?_
          refine lv_ladd hx hb dX12_can_96 ?_
          refine lv_lstore_n (lv' := [(2, .long (y2b92 + y8b92.toInt64)), (0, .ref (ad 12 0 0)), (1, .int x1), (4, .long y4b92), (6, .int (-1)), (7, .int y7b92), (8, .int y8b92)]) hx hb dX12_can_97 rfl hl (by decide) rfl (fun ls hl => ?_)
          refine lv_lload hx hb dX12_can_98 (lv_at hl 3 rfl) ?_
          refine lv_iload hx hb dX12_can_100 (lv_at hl 6 rfl) ?_
          refine lv_i2l (v := y8b92.toInt64) hx hb dX12_can_102 rfl ?_
          refine lv_aload_n hx hb dX12_can_103 rfl (lv_at hl 1 rfl) ?_
          refine lv_iload_n hx hb dX12_can_104 rfl (lv_at hl 2 rfl) ?_
          refine lv_iload hx hb dX12_can_105 (lv_at hl 5 rfl) ?_
          obtain ⟨r41, er41, hf⟩ := zbi hf
          refine z_callV (n := 2) (rest := [.long y8b92.toInt64, .long y4b92]) (st1 := [.int r41, .long y8b92.toInt64, .long y4b92]) (c0 := 12) (i0 := 0) (hZ.2.1 (12, 0) (by decide)) (by rfl) S hG hS hZ (fun _ _ h => h) (c_X12_rate l D aC zs A nl ad σ x1 y7b92 r41 er41) zw_738 zw_739 zw_740 zw_5 zw_741 (by decide +kernel) ⟨rfl, rfl⟩ ⟨(Nat.le_of_ble_eq_true rfl), (Nat.le_of_ble_eq_true rfl)⟩ hl.1 rfl (by rfl) (by rfl) (Nat.le_of_ble_eq_true rfl) dX12_can_107 ⟨Nat.zero_le _, Nat.zero_le _⟩ (fun H locs hz42 hG hS => ?_)
          refine lv_i2l (v := r41.toInt64) hx hb dX12_can_110 rfl ?_
          refine lv_lmul hx hb dX12_can_111 ?_
          refine lv_ladd hx hb dX12_can_112 ?_
          refine lv_lstore (lv' := [(4, .long (y4b92 + (y8b92.toInt64 * r41.toInt64))), (2, .long (y2b92 + y8b92.toInt64)), (0, .ref (ad 12 0 0)), (1, .int x1), (6, .int (-1)), (7, .int y7b92), (8, .int y8b92)]) hx hb dX12_can_113 hl (by decide) rfl (fun ls hl => ?_)
          refine lv_iinc (v := (y7b92 + 1)) (lv' := [(7, .int (y7b92 + 1)), (4, .long (y4b92 + (y8b92.toInt64 * r41.toInt64))), (2, .long (y2b92 + y8b92.toInt64)), (0, .ref (ad 12 0 0)), (1, .int x1), (6, .int (-1)), (8, .int y8b92)]) hx hb dX12_can_115 hl (k := 5) rfl rfl (by decide) rfl (fun ls hl => ?_)
          refine lv_goto (tgt := 11) hx hb dX12_can_118 (by decide) ?_
          cases hf
          exact ih11 (y2b92 + y8b92.toInt64) (y4b92 + (y8b92.toInt64 * r41.toInt64)) (y7b92 + 1) H locs ls hG hS (lv_sub hl [3, 4, 5, 2, 1, 0] rfl) hk11
        refine lv_iload hx hb dX12_can_11 (lv_at hl 5 rfl) ?_
        refine lv_bipush (v := 12) hx hb dX12_can_13 (by decide) ?_
        refine lv_icmp_gt (tgt := 121) hx hb dX12_can_15 (by decide) (fun c39 => ?_) (fun c39 => ?_)
        · have hf := zif_p c39 hf
          cases hf
          have hk11 : ((y2l11, y4l11) : (Int64 × Int64)) = t11 := hk11
          have hf := hfo11
          rw [← hk11] at hf
          have hf : (f_X12_can_B121 σ x1 y2l11 y4l11 (-1)) = some r := hf
          exact KJ121 y2l11 y4l11 (-1) H locs ls hG hS (lv_sub hl [0, 1, 3, 4, 2] rfl) hf
        · have hf := zif_n c39 hf
          refine lv_iconst (v := 0) hx hb dX12_can_18 (by decide) ?_
          refine lv_istore (lv' := [(8, .int 0), (0, .ref (ad 12 0 0)), (1, .int x1), (6, .int (-1)), (2, .long y2l11), (4, .long y4l11), (7, .int y7l11)]) hx hb dX12_can_19 hl (by decide) rfl (fun ls hl => ?_)
          refine lv_bipush (v := 40) hx hb dX12_can_21 (by decide) ?_
          refine lv_iload_n hx hb dX12_can_23 rfl (lv_at hl 2 rfl) ?_
          refine lv_imul hx hb dX12_can_24 ?_
          refine lv_istore (lv' := [(9, .int (40 * x1)), (8, .int 0), (0, .ref (ad 12 0 0)), (1, .int x1), (6, .int (-1)), (2, .long y2l11), (4, .long y4l11), (7, .int y7l11)]) hx hb dX12_can_25 hl (by decide) rfl (fun ls hl => ?_)
          obtain ⟨t27, hw27, hfo27⟩ := zbi hf
          have KL27 : ∀ (n : Nat) (y8l27 : Int32) (y9l27 : Int32) (H : Heap) (locs : List Loc) (ls : Array Slot), zG D aC A nl ad σ s H → va_S A s.heap H locs → lv_has ls 10 [(0, .ref (ad 12 0 0)), (1, .int x1), (2, .long y2l11), (4, .long y4l11), (6, .int (-1)), (7, .int y7l11), (8, .int y8l27), (9, .int y9l27)] → zwh (fun (q : (Int32 × Int32)) => f_X12_can_L27 σ x1 y2l11 y4l11 (-1) y7l11 q.1 q.2) n (y8l27, y9l27) = some t27 → zWk p l e ({ frames := 1, cells := 0, slots := 0, locals := 24 } : Room) s m args below meth c A (some (.int r)) (fun t => zG D aC A nl ad σ t t.heap ∧ True) H locs (F0 m 27 ls []) := by
            intro n
            induction n with
            | zero =>
              intro y8l27 y9l27 H locs ls hG hS hl hw
              exact (zwh_0 hw).elim
            | succ n ih27 =>
              intro y8l27 y9l27 H locs ls hG hS hl hw
              obtain ⟨rr27, hf, hk27⟩ := zwh_u hw
              have hf : f_X12_can_L27 σ x1 y2l11 y4l11 (-1) y7l11 y8l27 y9l27 = some rr27 := hf
              unfold f_X12_can_L27 at hf
              have KJ86_27 : ∀ (y8b86 : Int32) (y9b86 : Int32)   (H : Heap) (locs : List Loc) (ls : Array Slot), zG D aC A nl ad σ s H → va_S A s.heap H locs → lv_has ls 10 [(0, .ref (ad 12 0 0)), (1, .int x1), (2, .long y2l11), (4, .long y4l11), (6, .int (-1)), (7, .int y7l11), (8, .int y8b86), (9, .int y9b86)] → (f_X12_can_B86_27 σ x1 y2l11 y4l11 (-1) y7l11 y8b86 y9b86) = some rr27 → zWk p l e ({ frames := 1, cells := 0, slots := 0, locals := 24 } : Room) s m args below meth c A (some (.int r)) (fun t => zG D aC A nl ad σ t t.heap ∧ True) H locs (F0 m 86 ls []) := by
                intro y8b86 y9b86   H locs ls hG hS hl hf
                unfold f_X12_can_B86_27 at hf
                refine lv_iinc (v := (y9b86 + 1)) (lv' := [(9, .int (y9b86 + 1)), (0, .ref (ad 12 0 0)), (1, .int x1), (2, .long y2l11), (4, .long y4l11), (6, .int (-1)), (7, .int y7l11), (8, .int y8b86)]) hx hb dX12_can_86 hl (k := 7) rfl rfl (by decide) rfl (fun ls hl => ?_)
                refine lv_goto (tgt := 27) hx hb dX12_can_89 (by decide) ?_
                cases hf
                exact ih27 y8b86 (y9b86 + 1) H locs ls hG hS (lv_sub hl [1, 2, 3, 4, 5, 6, 7, 0] rfl) hk27
              refine lv_iload_n hx hb dX12_can_27 rfl (lv_at hl 1 rfl) ?_
              refine lv_iconst (v := (-1)) hx hb dX12_can_28 (by decide) ?_
              refine lv_icmp_eq (tgt := 92) hx hb dX12_can_29 (by decide) (fun c50 => ?_) (fun c50 => ?_)
              · have hf := zif_p c50 hf
                cases hf
                have hk27 : (y8l27 : Int32) = t27 := hk27
                have hf := hfo27
                rw [← hk27] at hf
                have hf : (f_X12_can_B92_11 σ x1 y2l11 y4l11 (-1) y7l11 y8l27) = some rr11 := hf
                exact KJ92_11 y2l11 y4l11 y7l11 y8l27 H locs ls hG hS (lv_sub hl [0, 1, 2, 3, 4, 5, 6] rfl) hf
              · have hf := zif_n c50 hf
                refine lv_iload hx hb dX12_can_32 (lv_at hl 7 rfl) ?_
                refine lv_bipush (v := 40) hx hb dX12_can_34 (by decide) ?_
                refine lv_iload_n hx hb dX12_can_36 rfl (lv_at hl 1 rfl) ?_
                refine lv_imul hx hb dX12_can_37 ?_
                refine lv_aload_n hx hb dX12_can_38 rfl (lv_at hl 0 rfl) ?_
                refine z_get (c0 := 12) (i0 := 0) (k0 := 25) (T := TX12) (v := .ref (ad 12 0 26)) S hG (hZ.2.1 (12, 0) (by decide)) rfl inlX12 (by decide) rfl zw_237 rfl dX12_can_39 ?_
                refine lv_iload_n hx hb dX12_can_42 rfl (lv_at hl 1 rfl) ?_
                obtain ⟨i51, hi51, hf⟩ := zbi hf
                refine z_iald (c0 := 12) (i0 := 0) (k0 := 25) S hG (hZ.2.1 (12, 0) (by decide)) (by decide) rfl hi51 dX12_can_43 ?_
                refine lv_iadd hx hb dX12_can_44 ?_
                refine lv_icmp_ge (tgt := 92) hx hb dX12_can_45 (by decide) (fun c52 => ?_) (fun c52 => ?_)
                · have hf := zif_p c52 hf
                  cases hf
                  have hk27 : (y8l27 : Int32) = t27 := hk27
                  have hf := hfo27
                  rw [← hk27] at hf
                  have hf : (f_X12_can_B92_11 σ x1 y2l11 y4l11 (-1) y7l11 y8l27) = some rr11 := hf
                  exact KJ92_11 y2l11 y4l11 y7l11 y8l27 H locs ls hG hS (lv_sub hl [0, 1, 2, 3, 4, 5, 6] rfl) hf
                · have hf := zif_n c52 hf
                  refine lv_aload_n hx hb dX12_can_48 rfl (lv_at hl 0 rfl) ?_
                  refine z_get (c0 := 12) (i0 := 0) (k0 := 27) (T := TX12) (v := .ref (ad 12 0 28)) S hG (hZ.2.1 (12, 0) (by decide)) rfl inlX12 (by decide) rfl zw_239 rfl dX12_can_49 ?_
                  refine lv_iload hx hb dX12_can_52 (lv_at hl 7 rfl) ?_
                  obtain ⟨i53, hi53, hf⟩ := zbi hf
                  refine z_iald (c0 := 12) (i0 := 0) (k0 := 27) S hG (hZ.2.1 (12, 0) (by decide)) (by decide) rfl hi53 dX12_can_54 ?_
                  refine lv_bipush (v := 11) hx hb dX12_can_55 (by decide) ?_
                  refine lv_icmp_ne (tgt := 86) hx hb dX12_can_57 (by decide) (fun c54 => ?_) (fun c54 => ?_)
                  · have hf := zif_n c54 hf
                    exact KJ86_27 y8l27 y9l27 H locs ls hG hS (lv_sub hl [0, 1, 2, 3, 4, 5, 6, 7] rfl) hf
                  · have hf := zif_p c54 hf
                    refine lv_aload_n hx hb dX12_can_60 rfl (lv_at hl 0 rfl) ?_
                    refine z_get (c0 := 12) (i0 := 0) (k0 := 28) (T := TX12) (v := .ref (ad 12 0 29)) S hG (hZ.2.1 (12, 0) (by decide)) rfl inlX12 (by decide) rfl zw_240 rfl dX12_can_61 ?_
                    refine lv_iload hx hb dX12_can_64 (lv_at hl 7 rfl) ?_
                    obtain ⟨i55, hi55, hf⟩ := zbi hf
                    refine z_iald (c0 := 12) (i0 := 0) (k0 := 28) S hG (hZ.2.1 (12, 0) (by decide)) (by decide) rfl hi55 dX12_can_66 ?_
                    refine lv_iload hx hb dX12_can_67 (lv_at hl 5 rfl) ?_
                    refine lv_icmp_ne (tgt := 86) hx hb dX12_can_69 (by decide) (fun c56 => ?_) (fun c56 => ?_)
                    · have hf := zif_n c56 hf
                      exact KJ86_27 y8l27 y9l27 H locs ls hG hS (lv_sub hl [0, 1, 2, 3, 4, 5, 6, 7] rfl) hf
                    · have hf := zif_p c56 hf
                      refine lv_iload hx hb dX12_can_72 (lv_at hl 6 rfl) ?_
                      refine lv_aload_n hx hb dX12_can_74 rfl (lv_at hl 0 rfl) ?_
                      refine z_get (c0 := 12) (i0 := 0) (k0 := 29) (T := TX12) (v := .ref (ad 12 0 30)) S hG (hZ.2.1 (12, 0) (by decide)) rfl inlX12 (by decide) rfl zw_241 rfl dX12_can_75 ?_
                      refine lv_iload hx hb dX12_can_78 (lv_at hl 7 rfl) ?_
                      obtain ⟨i57, hi57, hf⟩ := zbi hf
                      refine z_iald (c0 := 12) (i0 := 0) (k0 := 29) S hG (hZ.2.1 (12, 0) (by decide)) (by decide) rfl hi57 dX12_can_80 ?_
                      refine z_mmax (v := (zmax y8l27 (zA σ 12 0 29 i57))) S hl zw_735 zw_90 zw_91 zw_92 (Nat.le_of_ble_eq_true rfl) (Nat.le_of_ble_eq_true rfl) (Nat.le_of_ble_eq_true rfl) (Nat.zero_le _) (Nat.zero_le _) rfl dX12_can_81 ?_
                      refine lv_istore (lv' := [(8, .int (zmax y8l27 (zA σ 12 0 29 i57))), (0, .ref (ad 12 0 0)), (1, .int x1), (2, .long y2l11), (4, .long y4l11), (6, .int (-1)), (7, .int y7l11), (9, .int y9l27)]) hx hb dX12_can_84 hl (by decide) rfl (fun ls hl => ?_)
                      exact KJ86_27 (zmax y8l27 (zA σ 12 0 29 i57)) y9l27 H locs ls hG hS (lv_sub hl [1, 2, 3, 4, 5, 6, 0, 7] rfl) hf
          exact KL27 zFu 0 (40 * x1) H locs ls hG hS (lv_sub hl [2, 3, 5, 6, 4, 7, 1, 0] rfl) hw27
    exact KL11 zFu 0 0 1 H locs ls hG hS (lv_sub hl [4, 5, 1, 3, 2, 0] rfl) hw11
  exact hK0 _ _ ls hG hS hl hf
set_option maxRecDepth 100000 in
set_option maxHeartbeats 4000000 in
theorem c_X12_law (l : Launch) (D : va_G) (aC : Nat → ClassId) (zs : Nat × Nat) (A : Nat → Prop) (nl : zNL) (ad : Nat → Nat → Nat → Nat) (σ : zM) (x1 : Int32) (x2 : Int32) (r : Int32)  (hf : f_X12_law σ x1 x2 = some r) : Met l yX12_law (Cond.code yX12_law cX12_law 4 (some .int) :: wsL_law) ({ frames := 2, cells := 0, slots := 0, locals := 53 } : Room) (zP D aC zs zfM A nl ad σ [.ref (ad 12 0 0), .int x1, .int x2]) (zQ (some (.int r)) (fun t => zG D aC A nl ad σ t t.heap ∧ True) A) 0 0 A := by
  refine Met.ofW (cc := cX12_law) (maxL := 4) (ret := (some .int)) (by decide) rfl ?_
  intro p e s m args below meth c s₁ B hml hv
  obtain ⟨rfl, hG, hZ⟩ := hv
  have hx := B.exec
  have hb := B.bytes
  have hr := B.returns
  have hts : ∀ w ∈ wsL_law, w.before ([.ref (ad 12 0 0), .int x1, .int x2] : List Value).toArray s = true := fun w h => (atoms_spec B.pre) w (List.mem_cons_of_mem _ h)
  have hown : s.vm.findClass RX12 = some m.cls := findClass_of_methodNamed B.named
  have hlocks := B.notSynchronized
  have S : zS p m c cX12_law 4 s ([.ref (ad 12 0 0), .int x1, .int x2] : List Value).toArray RX12 := ⟨hx, hb, hml, hown, hts⟩
  have hS : va_S A s.heap s.heap [] := va_S.rf
  have hl := lv_entry ([.ref (ad 12 0 0), .int x1, .int x2]) (n := 4) (Nat.le_of_ble_eq_true rfl)
  rw [lg_entry_eq]
  generalize (lg_sl ([.ref (ad 12 0 0), .int x1, .int x2]) ++ List.replicate (4 - (lg_sl ([.ref (ad 12 0 0), .int x1, .int x2])).length) Slot.unset).toArray = ls at hl ⊢
  have hl : lv_has ls 4 [(0, .ref (ad 12 0 0)), (1, .int x1), (2, .int x2)] := hl
  generalize hargs : ([.ref (ad 12 0 0), .int x1, .int x2] : List Value).toArray = args at S hts ⊢
  clear hargs
  have hK0 : ∀ (H : Heap) (locs : List Loc) (ls : Array Slot), zG D aC A nl ad σ s H → va_S A s.heap H locs → lv_has ls 4 [(0, .ref (ad 12 0 0)), (1, .int x1), (2, .int x2)] → f_X12_law σ x1 x2 = some r → zWk p l e ({ frames := 2, cells := 0, slots := 0, locals := 53 } : Room) s m args below meth c A (some (.int r)) (fun t => zG D aC A nl ad σ t t.heap ∧ True) H locs (F0 m 0 ls []) := by
    intro H locs ls hG hS hl hf
    unfold f_X12_law at hf
    refine lv_iload_n hx hb dX12_law_0 rfl (lv_at hl 1 rfl) ?_
    refine z_callS (n := 1) (rest := []) (st1 := [.int (f_X12_isDay x1)]) S hG hS hZ (fun _ _ h => h) (c_X12_isDay l D aC zs A nl ad σ x1 (f_X12_isDay x1) rfl) zw_685 zw_686 zw_5 zw_687 (by decide +kernel) ⟨rfl, rfl⟩ ⟨(Nat.le_of_ble_eq_true rfl), (Nat.le_of_ble_eq_true rfl)⟩ hl.1 rfl (by rfl) (by rfl) (Nat.le_of_ble_eq_true rfl) dX12_law_1 ⟨Nat.zero_le _, Nat.zero_le _⟩ (fun H locs hz1 hG hS => ?_)
    refine lv_if_ne (tgt := 9) hx hb dX12_law_4 (by decide) (fun c2 => ?_) (fun c2 => ?_)
    · have hf := zif_n c2 hf
      refine lv_aload_n hx hb dX12_law_9 rfl (lv_at hl 0 rfl) ?_
      refine lv_iload_n hx hb dX12_law_10 rfl (lv_at hl 1 rfl) ?_
      obtain ⟨r3, er3, hf⟩ := zbi hf
      refine z_callV (n := 1) (rest := []) (st1 := [.int r3]) (c0 := 12) (i0 := 0) (hZ.2.1 (12, 0) (by decide)) (by rfl) S hG hS hZ (fun _ _ h => h) (c_X12_bindsOn l D aC zs A nl ad σ x1 r3 er3) zw_688 zw_689 zw_690 zw_5 zw_691 (by decide +kernel) ⟨rfl, rfl⟩ ⟨(Nat.le_of_ble_eq_true rfl), (Nat.le_of_ble_eq_true rfl)⟩ hl.1 rfl (by rfl) (by rfl) (Nat.le_of_ble_eq_true rfl) dX12_law_11 ⟨Nat.zero_le _, Nat.zero_le _⟩ (fun H locs hz4 hG hS => ?_)
      refine lv_istore_n (lv' := [(3, .int r3), (0, .ref (ad 12 0 0)), (1, .int x1), (2, .int x2)]) hx hb dX12_law_14 rfl hl (by decide) rfl (fun ls hl => ?_)
      refine lv_iload_n hx hb dX12_law_15 rfl (lv_at hl 3 rfl) ?_
      refine lv_iconst (v := 0) hx hb dX12_law_16 (by decide) ?_
      refine lv_bipush (v := 10) hx hb dX12_law_17 (by decide) ?_
      refine z_callS (n := 3) (rest := []) (st1 := [.int (f_X12_isIn x2 0 10)]) S hG hS hZ (fun _ _ h => h) (c_X12_isIn l D aC zs A nl ad σ x2 0 10 (f_X12_isIn x2 0 10) rfl) zw_514 zw_515 zw_5 zw_516 (by decide +kernel) ⟨rfl, rfl⟩ ⟨(Nat.le_of_ble_eq_true rfl), (Nat.le_of_ble_eq_true rfl)⟩ hl.1 rfl (by rfl) (by rfl) (Nat.le_of_ble_eq_true rfl) dX12_law_19 ⟨Nat.zero_le _, Nat.zero_le _⟩ (fun H locs hz5 hG hS => ?_)
      refine lv_if_eq (tgt := 32) hx hb dX12_law_22 (by decide) (fun c6 => ?_) (fun c6 => ?_)
      · have hf := zif_p c6 hf
        refine lv_iload_n hx hb dX12_law_32 rfl (lv_at hl 3 rfl) ?_
        refine lv_bipush (v := 11) hx hb dX12_law_33 (by decide) ?_
        refine lv_icmp_ne (tgt := 54) hx hb dX12_law_35 (by decide) (fun c7 => ?_) (fun c7 => ?_)
        · have hf := zif_n c7 hf
          refine lv_iload_n hx hb dX12_law_54 rfl (lv_at hl 3 rfl) ?_
          refine lv_bipush (v := 12) hx hb dX12_law_55 (by decide) ?_
          refine lv_icmp_ne (tgt := 66) hx hb dX12_law_57 (by decide) (fun c8 => ?_) (fun c8 => ?_)
          · have hf := zif_n c8 hf
            refine lv_iload_n hx hb dX12_law_66 rfl (lv_at hl 3 rfl) ?_
            refine lv_bipush (v := 21) hx hb dX12_law_67 (by decide) ?_
            refine lv_bipush (v := 32) hx hb dX12_law_69 (by decide) ?_
            refine z_callS (n := 3) (rest := []) (st1 := [.int (f_X12_isIn x2 21 32)]) S hG hS hZ (fun _ _ h => h) (c_X12_isIn l D aC zs A nl ad σ x2 21 32 (f_X12_isIn x2 21 32) rfl) zw_514 zw_515 zw_5 zw_516 (by decide +kernel) ⟨rfl, rfl⟩ ⟨(Nat.le_of_ble_eq_true rfl), (Nat.le_of_ble_eq_true rfl)⟩ hl.1 rfl (by rfl) (by rfl) (Nat.le_of_ble_eq_true rfl) dX12_law_71 ⟨Nat.zero_le _, Nat.zero_le _⟩ (fun H locs hz9 hG hS => ?_)
            refine lv_if_eq (tgt := 89) hx hb dX12_law_74 (by decide) (fun c10 => ?_) (fun c10 => ?_)
            · have hf := zif_p c10 hf
              refine lv_iconst (v := (-1)) hx hb dX12_law_89 (by decide) ?_
              have hq := (Option.some.inj hf)
              subst hq
              exact z_iret S hG hS hlocks trivial hr dX12_law_90
            · have hf := zif_n c10 hf
              refine lv_aload_n hx hb dX12_law_77 rfl (lv_at hl 1 rfl) ?_
              refine lv_iload_n hx hb dX12_law_78 rfl (lv_at hl 0 rfl) ?_
              refine lv_iload_n hx hb dX12_law_79 rfl (lv_at hl 3 rfl) ?_
              refine lv_bipush (v := 20) hx hb dX12_law_80 (by decide) ?_
              refine lv_isub hx hb dX12_law_82 ?_
              obtain ⟨r11, er11, hf⟩ := zbi hf
              refine z_callV (n := 2) (rest := []) (st1 := [.int r11]) (c0 := 12) (i0 := 0) (hZ.2.1 (12, 0) (by decide)) (by rfl) S hG hS hZ (fun _ _ h => h) (c_X12_rate l D aC zs A nl ad σ r3 (x2 - 20) r11 er11) zw_738 zw_739 zw_740 zw_5 zw_741 (by decide +kernel) ⟨rfl, rfl⟩ ⟨(Nat.le_of_ble_eq_true rfl), (Nat.le_of_ble_eq_true rfl)⟩ hl.1 rfl (by rfl) (by rfl) (Nat.le_of_ble_eq_true rfl) dX12_law_83 ⟨Nat.zero_le _, Nat.zero_le _⟩ (fun H locs hz12 hG hS => ?_)
              refine lv_goto (tgt := 90) hx hb dX12_law_86 (by decide) ?_
              have hq := (Option.some.inj hf)
              subst hq
              exact z_iret S hG hS hlocks trivial hr dX12_law_90
          · have hf := zif_p c8 hf
            refine lv_aload_n hx hb dX12_law_60 rfl (lv_at hl 1 rfl) ?_
            refine lv_iload_n hx hb dX12_law_61 rfl (lv_at hl 0 rfl) ?_
            obtain ⟨r13, er13, hf⟩ := zbi hf
            refine z_callV (n := 1) (rest := []) (st1 := [.int r13]) (c0 := 12) (i0 := 0) (hZ.2.1 (12, 0) (by decide)) (by rfl) S hG hS hZ (fun _ _ h => h) (c_X12_can l D aC zs A nl ad σ r3 r13 er13) zw_731 zw_732 zw_733 zw_5 zw_734 (by decide +kernel) ⟨rfl, rfl⟩ ⟨(Nat.le_of_ble_eq_true rfl), (Nat.le_of_ble_eq_true rfl)⟩ hl.1 rfl (by rfl) (by rfl) (Nat.le_of_ble_eq_true rfl) dX12_law_62 ⟨Nat.zero_le _, Nat.zero_le _⟩ (fun H locs hz14 hG hS => ?_)
            have hq := (Option.some.inj hf)
            subst hq
            exact z_iret S hG hS hlocks trivial hr dX12_law_65
        · have hf := zif_p c7 hf
          refine lv_iload_n hx hb dX12_law_38 rfl (lv_at hl 0 rfl) ?_
          refine lv_iconst (v := (-1)) hx hb dX12_law_39 (by decide) ?_
          refine lv_icmp_ne (tgt := 47) hx hb dX12_law_40 (by decide) (fun c15 => ?_) (fun c15 => ?_)
          · have hf := zif_n c15 hf
            refine lv_aload_n hx hb dX12_law_47 rfl (lv_at hl 1 rfl) ?_
            refine z_get (c0 := 12) (i0 := 0) (k0 := 25) (T := TX12) (v := .ref (ad 12 0 26)) S hG (hZ.2.1 (12, 0) (by decide)) rfl inlX12 (by decide) rfl zw_237 rfl dX12_law_48 ?_
            refine lv_iload_n hx hb dX12_law_51 rfl (lv_at hl 0 rfl) ?_
            obtain ⟨i16, hi16, hf⟩ := zbi hf
            refine z_iald (c0 := 12) (i0 := 0) (k0 := 25) S hG (hZ.2.1 (12, 0) (by decide)) (by decide) rfl hi16 dX12_law_52 ?_
            have hq := (Option.some.inj hf)
            subst hq
            exact z_iret S hG hS hlocks trivial hr dX12_law_53
          · have hf := zif_p c15 hf
            refine lv_iconst (v := 0) hx hb dX12_law_43 (by decide) ?_
            refine lv_goto (tgt := 53) hx hb dX12_law_44 (by decide) ?_
            have hq := (Option.some.inj hf)
            subst hq
            exact z_iret S hG hS hlocks trivial hr dX12_law_53
      · have hf := zif_n c6 hf
        refine lv_aload_n hx hb dX12_law_25 rfl (lv_at hl 1 rfl) ?_
        refine lv_iload_n hx hb dX12_law_26 rfl (lv_at hl 0 rfl) ?_
        refine lv_iload_n hx hb dX12_law_27 rfl (lv_at hl 3 rfl) ?_
        obtain ⟨r17, er17, hf⟩ := zbi hf
        refine z_callV (n := 2) (rest := []) (st1 := [.int r17]) (c0 := 12) (i0 := 0) (hZ.2.1 (12, 0) (by decide)) (by rfl) S hG hS hZ (fun _ _ h => h) (c_X12_tells l D aC zs A nl ad σ r3 x2 r17 er17) zw_724 zw_725 zw_726 zw_5 zw_727 (by decide +kernel) ⟨rfl, rfl⟩ ⟨(Nat.le_of_ble_eq_true rfl), (Nat.le_of_ble_eq_true rfl)⟩ hl.1 rfl (by rfl) (by rfl) (Nat.le_of_ble_eq_true rfl) dX12_law_28 ⟨Nat.zero_le _, Nat.zero_le _⟩ (fun H locs hz18 hG hS => ?_)
        have hq := (Option.some.inj hf)
        subst hq
        exact z_iret S hG hS hlocks trivial hr dX12_law_31
    · have hf := zif_p c2 hf
      refine lv_iconst (v := (-1)) hx hb dX12_law_7 (by decide) ?_
      have hq := (Option.some.inj hf)
      subst hq
      exact z_iret S hG hS hlocks trivial hr dX12_law_8
  exact hK0 _ _ ls hG hS hl hf
set_option maxRecDepth 100000 in
set_option maxHeartbeats 4000000 in
theorem c_X12_lettersOf (l : Launch) (D : va_G) (aC : Nat → ClassId) (zs : Nat × Nat) (A : Nat → Prop) (nl : zNL) (ad : Nat → Nat → Nat → Nat) (σ : zM) (x0 : Int64) (r : Int32)  (hf : f_X12_lettersOf x0 = some r) : Met l yX12_lettersOf (Cond.code yX12_lettersOf cX12_lettersOf 5 (some .int) :: wsL_law) ({ frames := 0, cells := 0, slots := 0, locals := 0 } : Room) (zP D aC zs zfM A nl ad σ [.long x0]) (zQ (some (.int r)) (fun t => zG D aC A nl ad σ t t.heap ∧ True) A) 0 0 A := by
  refine Met.ofW (cc := cX12_lettersOf) (maxL := 5) (ret := (some .int)) (by decide) rfl ?_
  intro p e s m args below meth c s₁ B hml hv
  obtain ⟨rfl, hG, hZ⟩ := hv
  have hx := B.exec
  have hb := B.bytes
  have hr := B.returns
  have hts : ∀ w ∈ wsL_law, w.before ([.long x0] : List Value).toArray s = true := fun w h => (atoms_spec B.pre) w (List.mem_cons_of_mem _ h)
  have hown : s.vm.findClass RX12 = some m.cls := findClass_of_methodNamed B.named
  have hlocks := B.notSynchronized
  have S : zS p m c cX12_lettersOf 5 s ([.long x0] : List Value).toArray RX12 := ⟨hx, hb, hml, hown, hts⟩
  have hS : va_S A s.heap s.heap [] := va_S.rf
  have hl := lv_entry ([.long x0]) (n := 5) (Nat.le_of_ble_eq_true rfl)
  rw [lg_entry_eq]
  generalize (lg_sl ([.long x0]) ++ List.replicate (5 - (lg_sl ([.long x0])).length) Slot.unset).toArray = ls at hl ⊢
  have hl : lv_has ls 5 [(0, .long x0)] := hl
  generalize hargs : ([.long x0] : List Value).toArray = args at S hts ⊢
  clear hargs
  have hK0 : ∀ (H : Heap) (locs : List Loc) (ls : Array Slot), zG D aC A nl ad σ s H → va_S A s.heap H locs → lv_has ls 5 [(0, .long x0)] → f_X12_lettersOf x0 = some r → zWk p l e ({ frames := 0, cells := 0, slots := 0, locals := 0 } : Room) s m args below meth c A (some (.int r)) (fun t => zG D aC A nl ad σ t t.heap ∧ True) H locs (F0 m 0 ls []) := by
    intro H locs ls hG hS hl hf
    unfold f_X12_lettersOf at hf
    refine lv_iconst (v := 0) hx hb dX12_lettersOf_0 (by decide) ?_
    refine lv_istore_n (lv' := [(2, .int 0), (0, .long x0)]) hx hb dX12_lettersOf_1 rfl hl (by decide) rfl (fun ls hl => ?_)
    refine lv_lload_n hx hb dX12_lettersOf_2 rfl (lv_at hl 1 rfl) ?_
    refine lv_lstore_n (lv' := [(3, .long x0), (2, .int 0), (0, .long x0)]) hx hb dX12_lettersOf_3 rfl hl (by decide) rfl (fun ls hl => ?_)
    obtain ⟨t4, hw4, hfo4⟩ := zbi hf
    have KL4 : ∀ (n : Nat) (y2l4 : Int32) (y3l4 : Int64) (H : Heap) (locs : List Loc) (ls : Array Slot), zG D aC A nl ad σ s H → va_S A s.heap H locs → lv_has ls 5 [(0, .long x0), (2, .int y2l4), (3, .long y3l4)] → zwh (fun (q : (Int32 × Int64)) => f_X12_lettersOf_L4 x0 q.1 q.2) n (y2l4, y3l4) = some t4 → zWk p l e ({ frames := 0, cells := 0, slots := 0, locals := 0 } : Room) s m args below meth c A (some (.int r)) (fun t => zG D aC A nl ad σ t t.heap ∧ True) H locs (F0 m 4 ls []) := by
      intro n
      induction n with
      | zero =>
        intro y2l4 y3l4 H locs ls hG hS hl hw
        exact (zwh_0 hw).elim
      | succ n ih4 =>
        intro y2l4 y3l4 H locs ls hG hS hl hw
        obtain ⟨rr4, hf, hk4⟩ := zwh_u hw
        have hf : f_X12_lettersOf_L4 x0 y2l4 y3l4 = some rr4 := hf
        unfold f_X12_lettersOf_L4 at hf
        refine lv_lload_n hx hb dX12_lettersOf_4 rfl (lv_at hl 2 rfl) ?_
        refine lv_lconst (v := 0) hx hb dX12_lettersOf_5 (by decide) ?_
        refine W.lcmp hx hb dX12_lettersOf_6 ?_
        refine lv_if_eq (tgt := 21) hx hb dX12_lettersOf_7 (by decide) (fun c2 => ?_) (fun c2 => ?_)
        · have hf := zif_p ((lg_cmp_eq y3l4 0).mp c2) hf
          cases hf
          have hk4 : (y2l4 : Int32) = t4 := hk4
          have hf := hfo4
          rw [← hk4] at hf
          have hf : (some y2l4) = some r := hf
          refine lv_iload_n hx hb dX12_lettersOf_21 rfl (lv_at hl 1 rfl) ?_
          have hq := (Option.some.inj hf)
          subst hq
          exact z_iret S hG hS hlocks trivial hr dX12_lettersOf_22
        · have hf := zif_n (fun h => c2 ((lg_cmp_eq y3l4 0).mpr h)) hf
          refine lv_iinc (v := (y2l4 + 1)) (lv' := [(2, .int (y2l4 + 1)), (0, .long x0), (3, .long y3l4)]) hx hb dX12_lettersOf_10 hl (k := 1) rfl rfl (by decide) rfl (fun ls hl => ?_)
          refine lv_lload_n hx hb dX12_lettersOf_13 rfl (lv_at hl 2 rfl) ?_
          refine lv_bipush (v := 8) hx hb dX12_lettersOf_14 (by decide) ?_
          refine lv_lushr (v := (zlushr y3l4 8)) hx hb dX12_lettersOf_16 rfl ?_
          refine lv_lstore_n (lv' := [(3, .long (zlushr y3l4 8)), (2, .int (y2l4 + 1)), (0, .long x0)]) hx hb dX12_lettersOf_17 rfl hl (by decide) rfl (fun ls hl => ?_)
          refine lv_goto (tgt := 4) hx hb dX12_lettersOf_18 (by decide) ?_
          cases hf
          exact ih4 (y2l4 + 1) (zlushr y3l4 8) H locs ls hG hS (lv_sub hl [2, 1, 0] rfl) hk4
    exact KL4 zFu 0 x0 H locs ls hG hS (lv_sub hl [2, 1, 0] rfl) hw4
  exact hK0 _ _ ls hG hS hl hf
set_option maxRecDepth 100000 in
set_option maxHeartbeats 4000000 in
theorem c_X12_name (l : Launch) (D : va_G) (aC : Nat → ClassId) (zs : Nat × Nat) (A : Nat → Prop) (nl : zNL) (ad : Nat → Nat → Nat → Nat) (σ : zM) (x1 : Int32) (x2 : Int32) (r : Int32)  (hf : f_X12_name σ x1 x2 = some r) : Met l yX12_name (Cond.code yX12_name cX12_name 4 (some .int) :: wsL_law) ({ frames := 1, cells := 0, slots := 0, locals := 24 } : Room) (zP D aC zs zfM A nl ad σ [.ref (ad 12 0 0), .int x1, .int x2]) (zQ (some (.int r)) (fun t => zG D aC A nl ad σ t t.heap ∧ True) A) 0 0 A := by
  refine Met.ofW (cc := cX12_name) (maxL := 4) (ret := (some .int)) (by decide) rfl ?_
  intro p e s m args below meth c s₁ B hml hv
  obtain ⟨rfl, hG, hZ⟩ := hv
  have hx := B.exec
  have hb := B.bytes
  have hr := B.returns
  have hts : ∀ w ∈ wsL_law, w.before ([.ref (ad 12 0 0), .int x1, .int x2] : List Value).toArray s = true := fun w h => (atoms_spec B.pre) w (List.mem_cons_of_mem _ h)
  have hown : s.vm.findClass RX12 = some m.cls := findClass_of_methodNamed B.named
  have hlocks := B.notSynchronized
  have S : zS p m c cX12_name 4 s ([.ref (ad 12 0 0), .int x1, .int x2] : List Value).toArray RX12 := ⟨hx, hb, hml, hown, hts⟩
  have hS : va_S A s.heap s.heap [] := va_S.rf
  have hl := lv_entry ([.ref (ad 12 0 0), .int x1, .int x2]) (n := 4) (Nat.le_of_ble_eq_true rfl)
  rw [lg_entry_eq]
  generalize (lg_sl ([.ref (ad 12 0 0), .int x1, .int x2]) ++ List.replicate (4 - (lg_sl ([.ref (ad 12 0 0), .int x1, .int x2])).length) Slot.unset).toArray = ls at hl ⊢
  have hl : lv_has ls 4 [(0, .ref (ad 12 0 0)), (1, .int x1), (2, .int x2)] := hl
  generalize hargs : ([.ref (ad 12 0 0), .int x1, .int x2] : List Value).toArray = args at S hts ⊢
  clear hargs
  have hK0 : ∀ (H : Heap) (locs : List Loc) (ls : Array Slot), zG D aC A nl ad σ s H → va_S A s.heap H locs → lv_has ls 4 [(0, .ref (ad 12 0 0)), (1, .int x1), (2, .int x2)] → f_X12_name σ x1 x2 = some r → zWk p l e ({ frames := 1, cells := 0, slots := 0, locals := 24 } : Room) s m args below meth c A (some (.int r)) (fun t => zG D aC A nl ad σ t t.heap ∧ True) H locs (F0 m 0 ls []) := by
    intro H locs ls hG hS hl hf
    unfold f_X12_name at hf
    refine lv_iload_n hx hb dX12_name_0 rfl (lv_at hl 1 rfl) ?_
    refine lv_iconst (v := 1) hx hb dX12_name_1 (by decide) ?_
    refine lv_aload_n hx hb dX12_name_2 rfl (lv_at hl 0 rfl) ?_
    refine z_get (c0 := 12) (i0 := 0) (k0 := 17) (T := TX12) (v := .int (zI σ 12 0 17)) S hG (hZ.2.1 (12, 0) (by decide)) rfl inlX12 (by decide) rfl zw_510 rfl dX12_name_3 ?_
    refine z_callS (n := 3) (rest := []) (st1 := [.int (f_X12_isIn x1 1 (zI σ 12 0 17))]) S hG hS hZ (fun _ _ h => h) (c_X12_isIn l D aC zs A nl ad σ x1 1 (zI σ 12 0 17) (f_X12_isIn x1 1 (zI σ 12 0 17)) rfl) zw_514 zw_515 zw_5 zw_516 (by decide +kernel) ⟨rfl, rfl⟩ ⟨(Nat.le_of_ble_eq_true rfl), (Nat.le_of_ble_eq_true rfl)⟩ hl.1 rfl (by rfl) (by rfl) (Nat.le_of_ble_eq_true rfl) dX12_name_6 ⟨Nat.zero_le _, Nat.zero_le _⟩ (fun H locs hz1 hG hS => ?_)
    refine lv_if_ne (tgt := 14) hx hb dX12_name_9 (by decide) (fun c2 => ?_) (fun c2 => ?_)
    · have hf := zif_n c2 hf
      refine lv_aload_n hx hb dX12_name_14 rfl (lv_at hl 0 rfl) ?_
      refine z_get (c0 := 12) (i0 := 0) (k0 := 37) (T := TX12) (v := .ref (ad 12 0 38)) S hG (hZ.2.1 (12, 0) (by decide)) rfl inlX12 (by decide) rfl zw_249 rfl dX12_name_15 ?_
      refine lv_iload_n hx hb dX12_name_18 rfl (lv_at hl 1 rfl) ?_
      obtain ⟨i3, hi3, hf⟩ := zbi hf
      refine z_lald (c0 := 12) (i0 := 0) (k0 := 37) S hG (hZ.2.1 (12, 0) (by decide)) (by decide) rfl hi3 dX12_name_19 ?_
      obtain ⟨r4, er4, hf⟩ := zbi hf
      refine z_callS (n := 1) (rest := []) (st1 := [.int r4]) S hG hS hZ (fun _ _ h => h) (c_X12_lettersOf l D aC zs A nl ad σ (zL σ 12 0 37 i3) r4 er4) zw_763 zw_764 zw_5 zw_765 (by decide +kernel) ⟨rfl, rfl⟩ ⟨(Nat.le_of_ble_eq_true rfl), (Nat.le_of_ble_eq_true rfl)⟩ hl.1 rfl (by rfl) (by rfl) (Nat.le_of_ble_eq_true rfl) dX12_name_20 ⟨Nat.zero_le _, Nat.zero_le _⟩ (fun H locs hz5 hG hS => ?_)
      refine lv_istore_n (lv' := [(3, .int r4), (0, .ref (ad 12 0 0)), (1, .int x1), (2, .int x2)]) hx hb dX12_name_23 rfl hl (by decide) rfl (fun ls hl => ?_)
      refine lv_iload_n hx hb dX12_name_24 rfl (lv_at hl 3 rfl) ?_
      refine lv_iconst (v := (-1)) hx hb dX12_name_25 (by decide) ?_
      refine lv_icmp_ne (tgt := 33) hx hb dX12_name_26 (by decide) (fun c6 => ?_) (fun c6 => ?_)
      · have hf := zif_n c6 hf
        refine lv_iload_n hx hb dX12_name_33 rfl (lv_at hl 3 rfl) ?_
        refine lv_iconst (v := 0) hx hb dX12_name_34 (by decide) ?_
        refine lv_iload_n hx hb dX12_name_35 rfl (lv_at hl 0 rfl) ?_
        refine lv_iconst (v := 1) hx hb dX12_name_36 (by decide) ?_
        refine lv_isub hx hb dX12_name_37 ?_
        refine z_callS (n := 3) (rest := []) (st1 := [.int (f_X12_isIn x2 0 (r4 - 1))]) S hG hS hZ (fun _ _ h => h) (c_X12_isIn l D aC zs A nl ad σ x2 0 (r4 - 1) (f_X12_isIn x2 0 (r4 - 1)) rfl) zw_514 zw_515 zw_5 zw_516 (by decide +kernel) ⟨rfl, rfl⟩ ⟨(Nat.le_of_ble_eq_true rfl), (Nat.le_of_ble_eq_true rfl)⟩ hl.1 rfl (by rfl) (by rfl) (Nat.le_of_ble_eq_true rfl) dX12_name_38 ⟨Nat.zero_le _, Nat.zero_le _⟩ (fun H locs hz7 hG hS => ?_)
        refine lv_if_eq (tgt := 67) hx hb dX12_name_41 (by decide) (fun c8 => ?_) (fun c8 => ?_)
        · have hf := zif_p c8 hf
          refine lv_iconst (v := (-1)) hx hb dX12_name_67 (by decide) ?_
          have hq := (Option.some.inj hf)
          subst hq
          exact z_iret S hG hS hlocks trivial hr dX12_name_68
        · have hf := zif_n c8 hf
          refine lv_aload_n hx hb dX12_name_44 rfl (lv_at hl 1 rfl) ?_
          refine z_get (c0 := 12) (i0 := 0) (k0 := 37) (T := TX12) (v := .ref (ad 12 0 38)) S hG (hZ.2.1 (12, 0) (by decide)) rfl inlX12 (by decide) rfl zw_249 rfl dX12_name_45 ?_
          refine lv_iload_n hx hb dX12_name_48 rfl (lv_at hl 2 rfl) ?_
          obtain ⟨i9, hi9, hf⟩ := zbi hf
          refine z_lald (c0 := 12) (i0 := 0) (k0 := 37) S hG (hZ.2.1 (12, 0) (by decide)) (by decide) rfl hi9 dX12_name_49 ?_
          refine lv_bipush (v := 8) hx hb dX12_name_50 (by decide) ?_
          refine lv_iload_n hx hb dX12_name_52 rfl (lv_at hl 0 rfl) ?_
          refine lv_iconst (v := 1) hx hb dX12_name_53 (by decide) ?_
          refine lv_isub hx hb dX12_name_54 ?_
          refine lv_iload_n hx hb dX12_name_55 rfl (lv_at hl 3 rfl) ?_
          refine lv_isub hx hb dX12_name_56 ?_
          refine lv_imul hx hb dX12_name_57 ?_
          refine lv_lshr (v := (zlshr (zL σ 12 0 37 i9) (8 * ((r4 - 1) - x2)))) hx hb dX12_name_58 rfl ?_
          refine lv_ldc2 (v := 255) hx hb hown (hts _ zw_762) dX12_name_59 ?_
          refine lv_land hx hb dX12_name_62 ?_
          refine lv_l2i (v := ((zlshr (zL σ 12 0 37 i9) (8 * ((r4 - 1) - x2))) &&& 255).toInt32) hx hb dX12_name_63 rfl ?_
          refine lv_goto (tgt := 68) hx hb dX12_name_64 (by decide) ?_
          have hq := (Option.some.inj hf)
          subst hq
          exact z_iret S hG hS hlocks trivial hr dX12_name_68
      · have hf := zif_p c6 hf
        refine lv_iload_n hx hb dX12_name_29 rfl (lv_at hl 0 rfl) ?_
        refine lv_goto (tgt := 68) hx hb dX12_name_30 (by decide) ?_
        have hq := (Option.some.inj hf)
        subst hq
        exact z_iret S hG hS hlocks trivial hr dX12_name_68
    · have hf := zif_p c2 hf
      refine lv_iconst (v := (-1)) hx hb dX12_name_12 (by decide) ?_
      have hq := (Option.some.inj hf)
      subst hq
      exact z_iret S hG hS hlocks trivial hr dX12_name_13
  exact hK0 _ _ ls hG hS hl hf
set_option maxRecDepth 100000 in
set_option maxHeartbeats 4000000 in
theorem c_X12_calls (l : Launch) (D : va_G) (aC : Nat → ClassId) (zs : Nat × Nat) (A : Nat → Prop) (nl : zNL) (ad : Nat → Nat → Nat → Nat) (σ : zM) (x1 : Int32) (x2 : Int32) (r : Int32) (σ' : zM)  (hf : f_X12_calls σ x1 x2 = some (r, σ')) : Met l yX12_calls (Cond.code yX12_calls cX12_calls 7 (some .boolean) :: wsL_law) ({ frames := 1, cells := 0, slots := 0, locals := 22 } : Room) (zP D aC zs zfM A nl ad σ [.ref (ad 12 0 0), .int x1, .int x2]) (zQ (some (.int r)) (fun t => zG D aC A nl ad σ' t t.heap ∧ (r = 0 ∨ r = 1)) A) 0 0 A := by
  refine Met.ofW (cc := cX12_calls) (maxL := 7) (ret := (some .boolean)) (by decide) rfl ?_
  intro p e s m args below meth c s₁ B hml hv
  obtain ⟨rfl, hG, hZ⟩ := hv
  have hx := B.exec
  have hb := B.bytes
  have hr := B.returns
  have hts : ∀ w ∈ wsL_law, w.before ([.ref (ad 12 0 0), .int x1, .int x2] : List Value).toArray s = true := fun w h => (atoms_spec B.pre) w (List.mem_cons_of_mem _ h)
  have hown : s.vm.findClass RX12 = some m.cls := findClass_of_methodNamed B.named
  have hlocks := B.notSynchronized
  have S : zS p m c cX12_calls 7 s ([.ref (ad 12 0 0), .int x1, .int x2] : List Value).toArray RX12 := ⟨hx, hb, hml, hown, hts⟩
  have hS : va_S A s.heap s.heap [] := va_S.rf
  have hl := lv_entry ([.ref (ad 12 0 0), .int x1, .int x2]) (n := 7) (Nat.le_of_ble_eq_true rfl)
  rw [lg_entry_eq]
  generalize (lg_sl ([.ref (ad 12 0 0), .int x1, .int x2]) ++ List.replicate (7 - (lg_sl ([.ref (ad 12 0 0), .int x1, .int x2])).length) Slot.unset).toArray = ls at hl ⊢
  have hl : lv_has ls 7 [(0, .ref (ad 12 0 0)), (1, .int x1), (2, .int x2)] := hl
  generalize hargs : ([.ref (ad 12 0 0), .int x1, .int x2] : List Value).toArray = args at S hts ⊢
  clear hargs
  have KJ109 : ∀ (y3b109 : Int32) (y4b109 : Int64)  (σb109 : zM) (H : Heap) (locs : List Loc) (ls : Array Slot), zG D aC A nl ad σb109 s H → va_S A s.heap H locs → lv_has ls 7 [(0, .ref (ad 12 0 0)), (1, .int x1), (2, .int x2), (3, .int y3b109), (4, .long y4b109)] → (f_X12_calls_B109 σb109 x1 x2 y3b109 y4b109) = some (r, σ') → zWk p l e ({ frames := 1, cells := 0, slots := 0, locals := 22 } : Room) s m args below meth c A (some (.int r)) (fun t => zG D aC A nl ad σ' t t.heap ∧ (r = 0 ∨ r = 1)) H locs (F0 m 109 ls []) := by
    intro y3b109 y4b109  σb109 H locs ls hG hS hl hf
    unfold f_X12_calls_B109 at hf
    refine lv_iload_n hx hb dX12_calls_109 rfl (lv_at hl 3 rfl) ?_
    refine lv_if_eq (tgt := 121) hx hb dX12_calls_110 (by decide) (fun c9 => ?_) (fun c9 => ?_)
    · have hf := zif_p c9 hf
      refine lv_iload_n hx hb dX12_calls_121 rfl (lv_at hl 3 rfl) ?_
      obtain ⟨_, hzc, hf⟩ := zbi hf
      have hzc := of_decide_eq_true (zck_s hzc)
      obtain ⟨hq1, hq2⟩ := Prod.mk.inj (Option.some.inj hf)
      subst hq1
      subst hq2
      exact z_zret S hG hS hlocks hzc hr dX12_calls_122
    · have hf := zif_n c9 hf
      refine lv_aload_n hx hb dX12_calls_113 rfl (lv_at hl 0 rfl) ?_
      refine z_get (c0 := 12) (i0 := 0) (k0 := 42) (T := TX12) (v := .ref (ad 12 0 43)) S hG (hZ.2.1 (12, 0) (by decide)) rfl inlX12 (by decide) rfl zw_253 rfl dX12_calls_114 ?_
      refine lv_iload_n hx hb dX12_calls_117 rfl (lv_at hl 1 rfl) ?_
      refine lv_lload hx hb dX12_calls_118 (lv_at hl 4 rfl) ?_
      obtain ⟨i10, hi10, hf⟩ := zbi hf
      refine z_last (c0 := 12) (i0 := 0) (k0 := 42) S hG hS (hZ.2.1 (12, 0) (by decide)) (by decide) rfl hi10 dX12_calls_120 (fun H locs hG hS => ?_)
      obtain ⟨σ11, eσ11, hf⟩ := zlt_s hf
      rw [← eσ11] at hG
      refine lv_iload_n hx hb dX12_calls_121 rfl (lv_at hl 3 rfl) ?_
      obtain ⟨_, hzc, hf⟩ := zbi hf
      have hzc := of_decide_eq_true (zck_s hzc)
      obtain ⟨hq1, hq2⟩ := Prod.mk.inj (Option.some.inj hf)
      subst hq1
      subst hq2
      exact z_zret S hG hS hlocks hzc hr dX12_calls_122
  have hK0 : ∀ (H : Heap) (locs : List Loc) (ls : Array Slot), zG D aC A nl ad σ s H → va_S A s.heap H locs → lv_has ls 7 [(0, .ref (ad 12 0 0)), (1, .int x1), (2, .int x2)] → f_X12_calls σ x1 x2 = some (r, σ') → zWk p l e ({ frames := 1, cells := 0, slots := 0, locals := 22 } : Room) s m args below meth c A (some (.int r)) (fun t => zG D aC A nl ad σ' t t.heap ∧ (r = 0 ∨ r = 1)) H locs (F0 m 0 ls []) := by
    intro H locs ls hG hS hl hf
    unfold f_X12_calls at hf
    refine lv_iload_n hx hb dX12_calls_0 rfl (lv_at hl 1 rfl) ?_
    refine lv_iconst (v := 0) hx hb dX12_calls_1 (by decide) ?_
    refine lv_bipush (v := 39) hx hb dX12_calls_2 (by decide) ?_
    refine z_callS (n := 3) (rest := []) (st1 := [.int (f_X12_isIn x1 0 39)]) S hG hS hZ (fun _ _ h => h) (c_X12_isIn l D aC zs A nl ad σ x1 0 39 (f_X12_isIn x1 0 39) rfl) zw_514 zw_515 zw_5 zw_516 (by decide +kernel) ⟨rfl, rfl⟩ ⟨(Nat.le_of_ble_eq_true rfl), (Nat.le_of_ble_eq_true rfl)⟩ hl.1 rfl (by rfl) (by rfl) (Nat.le_of_ble_eq_true rfl) dX12_calls_4 ⟨Nat.zero_le _, Nat.zero_le _⟩ (fun H locs hz1 hG hS => ?_)
    refine lv_if_eq (tgt := 22) hx hb dX12_calls_7 (by decide) (fun c2 => ?_) (fun c2 => ?_)
    · have hf := zif_p c2 hf
      refine lv_iconst (v := 0) hx hb dX12_calls_22 (by decide) ?_
      obtain ⟨hq1, hq2⟩ := Prod.mk.inj (Option.some.inj hf)
      subst hq1
      subst hq2
      exact z_zret S hG hS hlocks (Or.inl rfl) hr dX12_calls_23
    · have hf := zif_n c2 hf
      refine lv_iload_n hx hb dX12_calls_10 rfl (lv_at hl 2 rfl) ?_
      refine lv_iconst (v := 0) hx hb dX12_calls_11 (by decide) ?_
      refine lv_aload_n hx hb dX12_calls_12 rfl (lv_at hl 0 rfl) ?_
      refine z_get (c0 := 12) (i0 := 0) (k0 := 19) (T := TX12) (v := .int (zI σ 12 0 19)) S hG (hZ.2.1 (12, 0) (by decide)) rfl inlX12 (by decide) rfl zw_296 rfl dX12_calls_13 ?_
      refine z_callS (n := 3) (rest := []) (st1 := [.int (f_X12_isIn x2 0 (zI σ 12 0 19))]) S hG hS hZ (fun _ _ h => h) (c_X12_isIn l D aC zs A nl ad σ x2 0 (zI σ 12 0 19) (f_X12_isIn x2 0 (zI σ 12 0 19)) rfl) zw_514 zw_515 zw_5 zw_516 (by decide +kernel) ⟨rfl, rfl⟩ ⟨(Nat.le_of_ble_eq_true rfl), (Nat.le_of_ble_eq_true rfl)⟩ hl.1 rfl (by rfl) (by rfl) (Nat.le_of_ble_eq_true rfl) dX12_calls_16 ⟨Nat.zero_le _, Nat.zero_le _⟩ (fun H locs hz3 hG hS => ?_)
      refine lv_if_ne (tgt := 24) hx hb dX12_calls_19 (by decide) (fun c4 => ?_) (fun c4 => ?_)
      · have hf := zif_n c4 hf
        refine lv_aload_n hx hb dX12_calls_24 rfl (lv_at hl 0 rfl) ?_
        refine lv_iload_n hx hb dX12_calls_25 rfl (lv_at hl 2 rfl) ?_
        obtain ⟨σ5, eσ5, hf⟩ := zbi hf
        refine z_callV (n := 1) (rest := []) (st1 := []) (c0 := 12) (i0 := 0) (hZ.2.1 (12, 0) (by decide)) (by rfl) S hG hS hZ (fun _ _ h => h) (c_X12_takesText l D aC zs A nl ad σ x2 σ5 eσ5) zw_517 zw_518 zw_519 zw_5 zw_520 (by decide +kernel) ⟨rfl, rfl⟩ ⟨(Nat.le_of_ble_eq_true rfl), (Nat.le_of_ble_eq_true rfl)⟩ hl.1 rfl (by rfl) (by rfl) (Nat.le_of_ble_eq_true rfl) dX12_calls_26 ⟨Nat.zero_le _, Nat.zero_le _⟩ (fun H locs hz6 hG hS => ?_)
        refine lv_iload_n hx hb dX12_calls_29 rfl (lv_at hl 2 rfl) ?_
        refine lv_iconst (v := 1) hx hb dX12_calls_30 (by decide) ?_
        refine lv_bipush (v := 8) hx hb dX12_calls_31 (by decide) ?_
        refine z_callS (n := 3) (rest := []) (st1 := [.int (f_X12_isIn x2 1 8)]) S hG hS hZ (fun _ _ h => h) (c_X12_isIn l D aC zs A nl ad σ5 x2 1 8 (f_X12_isIn x2 1 8) rfl) zw_514 zw_515 zw_5 zw_516 (by decide +kernel) ⟨rfl, rfl⟩ ⟨(Nat.le_of_ble_eq_true rfl), (Nat.le_of_ble_eq_true rfl)⟩ hl.1 rfl (by rfl) (by rfl) (Nat.le_of_ble_eq_true rfl) dX12_calls_33 ⟨Nat.zero_le _, Nat.zero_le _⟩ (fun H locs hz7 hG hS => ?_)
        refine lv_istore_n (lv' := [(3, .int (f_X12_isIn x2 1 8)), (0, .ref (ad 12 0 0)), (1, .int x1), (2, .int x2)]) hx hb dX12_calls_36 rfl hl (by decide) rfl (fun ls hl => ?_)
        refine lv_lconst (v := 0) hx hb dX12_calls_37 (by decide) ?_
        refine lv_lstore (lv' := [(4, .long 0), (3, .int (f_X12_isIn x2 1 8)), (0, .ref (ad 12 0 0)), (1, .int x1), (2, .int x2)]) hx hb dX12_calls_38 hl (by decide) rfl (fun ls hl => ?_)
        refine lv_iconst (v := 0) hx hb dX12_calls_40 (by decide) ?_
        refine lv_istore (lv' := [(6, .int 0), (4, .long 0), (3, .int (f_X12_isIn x2 1 8)), (0, .ref (ad 12 0 0)), (1, .int x1), (2, .int x2)]) hx hb dX12_calls_41 hl (by decide) rfl (fun ls hl => ?_)
        obtain ⟨t43, hw43, hfo43⟩ := zbi hf
        have KL43 : ∀ (n : Nat) (y3l43 : Int32) (y4l43 : Int64) (y6l43 : Int32) (H : Heap) (locs : List Loc) (ls : Array Slot), zG D aC A nl ad σ5 s H → va_S A s.heap H locs → lv_has ls 7 [(0, .ref (ad 12 0 0)), (1, .int x1), (2, .int x2), (3, .int y3l43), (4, .long y4l43), (6, .int y6l43)] → zwh (fun (q : (Int32 × Int64 × Int32)) => f_X12_calls_L43 σ5 x1 x2 q.1 q.2.1 q.2.2) n (y3l43, y4l43, y6l43) = some t43 → zWk p l e ({ frames := 1, cells := 0, slots := 0, locals := 22 } : Room) s m args below meth c A (some (.int r)) (fun t => zG D aC A nl ad σ' t t.heap ∧ (r = 0 ∨ r = 1)) H locs (F0 m 43 ls []) := by
          intro n
          induction n with
          | zero =>
            intro y3l43 y4l43 y6l43 H locs ls hG hS hl hw
            exact (zwh_0 hw).elim
          | succ n ih43 =>
            intro y3l43 y4l43 y6l43 H locs ls hG hS hl hw
            obtain ⟨rr43, hf, hk43⟩ := zwh_u hw
            have hf : f_X12_calls_L43 σ5 x1 x2 y3l43 y4l43 y6l43 = some rr43 := hf
            unfold f_X12_calls_L43 at hf
            have KJ82_43 : ∀ (y4b82 : Int64) (y6b82 : Int32) (t0b82 : Int32)   (H : Heap) (locs : List Loc) (ls : Array Slot), zG D aC A nl ad σ5 s H → va_S A s.heap H locs → lv_has ls 7 [(0, .ref (ad 12 0 0)), (1, .int x1), (2, .int x2), (4, .long y4b82), (6, .int y6b82)] → (f_X12_calls_B82_43 σ5 x1 x2 y4b82 y6b82 t0b82) = some rr43 → zWk p l e ({ frames := 1, cells := 0, slots := 0, locals := 22 } : Room) s m args below meth c A (some (.int r)) (fun t => zG D aC A nl ad σ' t t.heap ∧ (r = 0 ∨ r = 1)) H locs (F0 m 82 ls [.int t0b82]) := by
              intro y4b82 y6b82 t0b82   H locs ls hG hS hl hf
              unfold f_X12_calls_B82_43 at hf
              refine lv_istore_n (lv' := [(3, .int t0b82), (0, .ref (ad 12 0 0)), (1, .int x1), (2, .int x2), (4, .long y4b82), (6, .int y6b82)]) hx hb dX12_calls_82 rfl hl (by decide) rfl (fun ls hl => ?_)
              refine lv_lload hx hb dX12_calls_83 (lv_at hl 4 rfl) ?_
              refine lv_bipush (v := 8) hx hb dX12_calls_85 (by decide) ?_
              refine lv_lshl (v := (zlshl y4b82 8)) hx hb dX12_calls_87 rfl ?_
              refine lv_aload_n hx hb dX12_calls_88 rfl (lv_at hl 1 rfl) ?_
              refine z_get (c0 := 12) (i0 := 0) (k0 := 39) (T := TX12) (v := .ref (ad 12 0 40)) S hG (hZ.2.1 (12, 0) (by decide)) rfl inlX12 (by decide) rfl zw_252 rfl dX12_calls_89 ?_
              refine lv_iload hx hb dX12_calls_92 (lv_at hl 5 rfl) ?_
              obtain ⟨i26, hi26, hf⟩ := zbi hf
              refine z_bald (c0 := 12) (i0 := 0) (k0 := 39) S hG (hZ.2.1 (12, 0) (by decide)) (by decide) rfl hi26 dX12_calls_94 ?_
              refine lv_i2l (v := (zA σ5 12 0 39 i26).toInt64) hx hb dX12_calls_95 rfl ?_
              refine lv_ldc2 (v := 255) hx hb hown (hts _ zw_762) dX12_calls_96 ?_
              refine lv_land hx hb dX12_calls_99 ?_
              refine lv_lor hx hb dX12_calls_100 ?_
              refine lv_lstore (lv' := [(4, .long ((zlshl y4b82 8) ||| ((zA σ5 12 0 39 i26).toInt64 &&& 255))), (3, .int t0b82), (0, .ref (ad 12 0 0)), (1, .int x1), (2, .int x2), (6, .int y6b82)]) hx hb dX12_calls_101 hl (by decide) rfl (fun ls hl => ?_)
              refine lv_iinc (v := (y6b82 + 1)) (lv' := [(6, .int (y6b82 + 1)), (4, .long ((zlshl y4b82 8) ||| ((zA σ5 12 0 39 i26).toInt64 &&& 255))), (3, .int t0b82), (0, .ref (ad 12 0 0)), (1, .int x1), (2, .int x2)]) hx hb dX12_calls_103 hl (k := 5) rfl rfl (by decide) rfl (fun ls hl => ?_)
              refine lv_goto (tgt := 43) hx hb dX12_calls_106 (by decide) ?_
              cases hf
              exact ih43 t0b82 ((zlshl y4b82 8) ||| ((zA σ5 12 0 39 i26).toInt64 &&& 255)) (y6b82 + 1) H locs ls hG hS (lv_sub hl [3, 4, 5, 2, 1, 0] rfl) hk43
            have KJ81_43 : ∀ (y4b81 : Int64) (y6b81 : Int32)   (H : Heap) (locs : List Loc) (ls : Array Slot), zG D aC A nl ad σ5 s H → va_S A s.heap H locs → lv_has ls 7 [(0, .ref (ad 12 0 0)), (1, .int x1), (2, .int x2), (4, .long y4b81), (6, .int y6b81)] → (f_X12_calls_B81_43 σ5 x1 x2 y4b81 y6b81) = some rr43 → zWk p l e ({ frames := 1, cells := 0, slots := 0, locals := 22 } : Room) s m args below meth c A (some (.int r)) (fun t => zG D aC A nl ad σ' t t.heap ∧ (r = 0 ∨ r = 1)) H locs (F0 m 81 ls []) := by
              intro y4b81 y6b81   H locs ls hG hS hl hf
              unfold f_X12_calls_B81_43 at hf
              refine lv_iconst (v := 0) hx hb dX12_calls_81 (by decide) ?_
              exact KJ82_43 y4b81 y6b81 0 H locs ls hG hS (lv_sub hl [0, 1, 2, 3, 4] rfl) hf
            refine lv_iload hx hb dX12_calls_43 (lv_at hl 5 rfl) ?_
            refine lv_iload_n hx hb dX12_calls_45 rfl (lv_at hl 2 rfl) ?_
            refine lv_icmp_ge (tgt := 109) hx hb dX12_calls_46 (by decide) (fun c22 => ?_) (fun c22 => ?_)
            · have hf := zif_p c22 hf
              cases hf
              have hk43 : ((y3l43, y4l43) : (Int32 × Int64)) = t43 := hk43
              have hf := hfo43
              rw [← hk43] at hf
              have hf : (f_X12_calls_B109 σ5 x1 x2 y3l43 y4l43) = some (r, σ') := hf
              exact KJ109 y3l43 y4l43 σ5 H locs ls hG hS (lv_sub hl [0, 1, 2, 3, 4] rfl) hf
            · have hf := zif_n c22 hf
              refine lv_iload_n hx hb dX12_calls_49 rfl (lv_at hl 3 rfl) ?_
              refine lv_if_eq (tgt := 109) hx hb dX12_calls_50 (by decide) (fun c23 => ?_) (fun c23 => ?_)
              · have hf := zif_p c23 hf
                cases hf
                have hk43 : ((y3l43, y4l43) : (Int32 × Int64)) = t43 := hk43
                have hf := hfo43
                rw [← hk43] at hf
                have hf : (f_X12_calls_B109 σ5 x1 x2 y3l43 y4l43) = some (r, σ') := hf
                exact KJ109 y3l43 y4l43 σ5 H locs ls hG hS (lv_sub hl [0, 1, 2, 3, 4] rfl) hf
              · have hf := zif_n c23 hf
                refine lv_aload_n hx hb dX12_calls_53 rfl (lv_at hl 0 rfl) ?_
                refine z_get (c0 := 12) (i0 := 0) (k0 := 39) (T := TX12) (v := .ref (ad 12 0 40)) S hG (hZ.2.1 (12, 0) (by decide)) rfl inlX12 (by decide) rfl zw_252 rfl dX12_calls_54 ?_
                refine lv_iload hx hb dX12_calls_57 (lv_at hl 5 rfl) ?_
                obtain ⟨i24, hi24, hf⟩ := zbi hf
                refine z_bald (c0 := 12) (i0 := 0) (k0 := 39) S hG (hZ.2.1 (12, 0) (by decide)) (by decide) rfl hi24 dX12_calls_59 ?_
                refine lv_bipush (v := 97) hx hb dX12_calls_60 (by decide) ?_
                refine lv_icmp_lt (tgt := 81) hx hb dX12_calls_62 (by decide) (fun c25 => ?_) (fun c25 => ?_)
                · have hf := zif_p c25 hf
                  exact KJ81_43 y4l43 y6l43 H locs ls hG hS (lv_sub hl [0, 1, 2, 4, 5] rfl) hf
                · have hf := zif_n c25 hf
                  refine lv_aload_n hx hb dX12_calls_65 rfl (lv_at hl 0 rfl) ?_
                  refine z_get (c0 := 12) (i0 := 0) (k0 := 39) (T := TX12) (v := .ref (ad 12 0 40)) S hG (hZ.2.1 (12, 0) (by decide)) rfl inlX12 (by decide) rfl zw_252 rfl dX12_calls_66 ?_
                  refine lv_iload hx hb dX12_calls_69 (lv_at hl 5 rfl) ?_
                  obtain ⟨i27, hi27, hf⟩ := zbi hf
                  refine z_bald (c0 := 12) (i0 := 0) (k0 := 39) S hG (hZ.2.1 (12, 0) (by decide)) (by decide) rfl hi27 dX12_calls_71 ?_
                  refine lv_bipush (v := 122) hx hb dX12_calls_72 (by decide) ?_
                  have Kv30 : ∀ (v30 : Int32) (ls : Array Slot), lv_has ls 7 [(0, .ref (ad 12 0 0)), (1, .int x1), (2, .int x2), (3, .int y3l43), (4, .long y4l43), (6, .int y6l43)] → ((zix y6l43 900).bind fun i32 => some (.inl (v30, ((zlshl y4l43 8) ||| ((zA σ5 12 0 39 i32).toInt64 &&& 255)), (y6l43 + 1)))) = some rr43 → zWk p l e ({ frames := 1, cells := 0, slots := 0, locals := 22 } : Room) s m args below meth c A (some (.int r)) (fun t => zG D aC A nl ad σ' t t.heap ∧ (r = 0 ∨ r = 1)) H locs (F0 m 82 ls [.int v30]) := by
                    intro v30 ls hl hf
                    refine lv_istore_n (lv' := [(3, .int v30), (0, .ref (ad 12 0 0)), (1, .int x1), (2, .int x2), (4, .long y4l43), (6, .int y6l43)]) hx hb dX12_calls_82 rfl hl (by decide) rfl (fun ls hl => ?_)
                    refine lv_lload hx hb dX12_calls_83 (lv_at hl 4 rfl) ?_
                    refine lv_bipush (v := 8) hx hb dX12_calls_85 (by decide) ?_
                    refine lv_lshl (v := (zlshl y4l43 8)) hx hb dX12_calls_87 rfl ?_
                    refine lv_aload_n hx hb dX12_calls_88 rfl (lv_at hl 1 rfl) ?_
                    refine z_get (c0 := 12) (i0 := 0) (k0 := 39) (T := TX12) (v := .ref (ad 12 0 40)) S hG (hZ.2.1 (12, 0) (by decide)) rfl inlX12 (by decide) rfl zw_252 rfl dX12_calls_89 ?_
                    refine lv_iload hx hb dX12_calls_92 (lv_at hl 5 rfl) ?_
                    obtain ⟨i32, hi32, hf⟩ := zbi hf
                    refine z_bald (c0 := 12) (i0 := 0) (k0 := 39) S hG (hZ.2.1 (12, 0) (by decide)) (by decide) rfl hi32 dX12_calls_94 ?_
                    refine lv_i2l (v := (zA σ5 12 0 39 i32).toInt64) hx hb dX12_calls_95 rfl ?_
                    refine lv_ldc2 (v := 255) hx hb hown (hts _ zw_762) dX12_calls_96 ?_
                    refine lv_land hx hb dX12_calls_99 ?_
                    refine lv_lor hx hb dX12_calls_100 ?_
                    refine lv_lstore (lv' := [(4, .long ((zlshl y4l43 8) ||| ((zA σ5 12 0 39 i32).toInt64 &&& 255))), (3, .int v30), (0, .ref (ad 12 0 0)), (1, .int x1), (2, .int x2), (6, .int y6l43)]) hx hb dX12_calls_101 hl (by decide) rfl (fun ls hl => ?_)
                    refine lv_iinc (v := (y6l43 + 1)) (lv' := [(6, .int (y6l43 + 1)), (4, .long ((zlshl y4l43 8) ||| ((zA σ5 12 0 39 i32).toInt64 &&& 255))), (3, .int v30), (0, .ref (ad 12 0 0)), (1, .int x1), (2, .int x2)]) hx hb dX12_calls_103 hl (k := 5) rfl rfl (by decide) rfl (fun ls hl => ?_)
                    refine lv_goto (tgt := 43) hx hb dX12_calls_106 (by decide) ?_
                    cases hf
                    exact ih43 v30 ((zlshl y4l43 8) ||| ((zA σ5 12 0 39 i32).toInt64 &&& 255)) (y6l43 + 1) H locs ls hG hS (lv_sub hl [3, 4, 5, 2, 1, 0] rfl) hk43
                  refine lv_icmp_gt (tgt := 81) hx hb dX12_calls_74 (by decide) (fun c29 => ?_) (fun c29 => ?_)
                  · rw [if_pos c29] at hf
                    refine lv_iconst (v := 0) hx hb dX12_calls_81 (by decide) ?_
                    exact Kv30 _ ls hl hf
                  · rw [if_neg c29] at hf
                    refine lv_iconst (v := 1) hx hb dX12_calls_77 (by decide) ?_
                    refine lv_goto (tgt := 82) hx hb dX12_calls_78 (by decide) ?_
                    exact Kv30 _ ls hl hf
        exact KL43 zFu (f_X12_isIn x2 1 8) 0 0 H locs ls hG hS (lv_sub hl [3, 4, 5, 2, 1, 0] rfl) hw43
      · have hf := zif_p c4 hf
        refine lv_iconst (v := 0) hx hb dX12_calls_22 (by decide) ?_
        obtain ⟨hq1, hq2⟩ := Prod.mk.inj (Option.some.inj hf)
        subst hq1
        subst hq2
        exact z_zret S hG hS hlocks (Or.inl rfl) hr dX12_calls_23
  exact hK0 _ _ ls hG hS hl hf
