set_option maxRecDepth 100000 in
set_option maxHeartbeats 4000000 in
theorem c_X12_isAhead (l : Launch) (D : va_G) (aC : Nat → ClassId) (zs : Nat × Nat) (A : Nat → Prop) (nl : zNL) (ad : Nat → Nat → Nat → Nat) (σ : zM) (x1 : Int32) (x2 : Int32) (x3 : Int32) (r : Int32)  (hf : f_X12_isAhead σ x1 x2 x3 = some r) : Met l yX12_isAhead (Cond.code yX12_isAhead cX12_isAhead 6 (some .boolean) :: wsL_law) ({ frames := 2, cells := 0, slots := 0, locals := 49 } : Room) (zP D aC zs zfM A nl ad σ [.ref (ad 12 0 0), .int x1, .int x2, .int x3]) (zQ (some (.int r)) (fun t => zG D aC A nl ad σ t t.heap ∧ (r = 0 ∨ r = 1)) A) 0 0 A := by
  refine Met.ofW (cc := cX12_isAhead) (maxL := 6) (ret := (some .boolean)) (by decide) rfl ?_
  intro p e s m args below meth c s₁ B hml hv
  obtain ⟨rfl, hG, hZ⟩ := hv
  have hx := B.exec
  have hb := B.bytes
  have hr := B.returns
  have hts : ∀ w ∈ wsL_law, w.before ([.ref (ad 12 0 0), .int x1, .int x2, .int x3] : List Value).toArray s = true := fun w h => (atoms_spec B.pre) w (List.mem_cons_of_mem _ h)
  have hown : s.vm.findClass RX12 = some m.cls := findClass_of_methodNamed B.named
  have hlocks := B.notSynchronized
  have S : zS p m c cX12_isAhead 6 s ([.ref (ad 12 0 0), .int x1, .int x2, .int x3] : List Value).toArray RX12 := ⟨hx, hb, hml, hown, hts⟩
  have hS : va_S A s.heap s.heap [] := va_S.rf
  have hl := lv_entry ([.ref (ad 12 0 0), .int x1, .int x2, .int x3]) (n := 6) (Nat.le_of_ble_eq_true rfl)
  rw [lg_entry_eq]
  generalize (lg_sl ([.ref (ad 12 0 0), .int x1, .int x2, .int x3]) ++ List.replicate (6 - (lg_sl ([.ref (ad 12 0 0), .int x1, .int x2, .int x3])).length) Slot.unset).toArray = ls at hl ⊢
  have hl : lv_has ls 6 [(0, .ref (ad 12 0 0)), (1, .int x1), (2, .int x2), (3, .int x3)] := hl
  generalize hargs : ([.ref (ad 12 0 0), .int x1, .int x2, .int x3] : List Value).toArray = args at S hts ⊢
  clear hargs
  have KJ133 : ∀ (H : Heap) (locs : List Loc) (ls : Array Slot), zG D aC A nl ad σ s H → va_S A s.heap H locs → lv_has ls 6 [(0, .ref (ad 12 0 0)), (1, .int x1), (2, .int x2), (3, .int x3)] → (f_X12_isAhead_B133 σ x1 x2 x3) = some r → zWk p l e ({ frames := 2, cells := 0, slots := 0, locals := 49 } : Room) s m args below meth c A (some (.int r)) (fun t => zG D aC A nl ad σ t t.heap ∧ (r = 0 ∨ r = 1)) H locs (F0 m 133 ls []) := by
    intro    H locs ls hG hS hl hf
    unfold f_X12_isAhead_B133 at hf
    refine lv_iconst (v := 1) hx hb dX12_isAhead_133 (by decide) ?_
    refine lv_goto (tgt := 138) hx hb dX12_isAhead_134 (by decide) ?_
    have hq := (Option.some.inj hf)
    subst hq
    exact z_zret S hG hS hlocks (Or.inr rfl) hr dX12_isAhead_138
  have KJ92 : ∀ (y4b92 : Int32) (t0b92 : Int32)   (H : Heap) (locs : List Loc) (ls : Array Slot), zG D aC A nl ad σ s H → va_S A s.heap H locs → lv_has ls 6 [(0, .ref (ad 12 0 0)), (1, .int x1), (2, .int x2), (3, .int x3), (4, .int y4b92)] → (f_X12_isAhead_B92 σ x1 x2 x3 y4b92 t0b92) = some r → zWk p l e ({ frames := 2, cells := 0, slots := 0, locals := 49 } : Room) s m args below meth c A (some (.int r)) (fun t => zG D aC A nl ad σ t t.heap ∧ (r = 0 ∨ r = 1)) H locs (F0 m 92 ls [.int t0b92]) := by
    intro y4b92 t0b92   H locs ls hG hS hl hf
    unfold f_X12_isAhead_B92 at hf
    refine lv_istore (lv' := [(5, .int t0b92), (0, .ref (ad 12 0 0)), (1, .int x1), (2, .int x2), (3, .int x3), (4, .int y4b92)]) hx hb dX12_isAhead_92 hl (by decide) rfl (fun ls hl => ?_)
    refine lv_iload hx hb dX12_isAhead_94 (lv_at hl 5 rfl) ?_
    refine lv_iload hx hb dX12_isAhead_96 (lv_at hl 0 rfl) ?_
    refine lv_icmp_ne (tgt := 114) hx hb dX12_isAhead_98 (by decide) (fun c8 => ?_) (fun c8 => ?_)
    · have hf := zif_n c8 hf
      refine lv_iload hx hb dX12_isAhead_114 (lv_at hl 5 rfl) ?_
      refine lv_iconst (v := (-1)) hx hb dX12_isAhead_116 (by decide) ?_
      refine lv_icmp_eq (tgt := 137) hx hb dX12_isAhead_117 (by decide) (fun c9 => ?_) (fun c9 => ?_)
      · have hf := zif_p c9 hf
        refine lv_iconst (v := 0) hx hb dX12_isAhead_137 (by decide) ?_
        have hq := (Option.some.inj hf)
        subst hq
        exact z_zret S hG hS hlocks (Or.inl rfl) hr dX12_isAhead_138
      · have hf := zif_n c9 hf
        refine lv_iload hx hb dX12_isAhead_120 (lv_at hl 0 rfl) ?_
        refine lv_iconst (v := (-1)) hx hb dX12_isAhead_122 (by decide) ?_
        refine lv_icmp_eq (tgt := 133) hx hb dX12_isAhead_123 (by decide) (fun c10 => ?_) (fun c10 => ?_)
        · have hf := zif_p c10 hf
          exact KJ133 H locs ls hG hS (lv_sub hl [1, 2, 3, 4] rfl) hf
        · have hf := zif_n c10 hf
          refine lv_iload hx hb dX12_isAhead_126 (lv_at hl 5 rfl) ?_
          refine lv_iload hx hb dX12_isAhead_128 (lv_at hl 0 rfl) ?_
          refine lv_icmp_ge (tgt := 137) hx hb dX12_isAhead_130 (by decide) (fun c11 => ?_) (fun c11 => ?_)
          · have hf := zif_p c11 hf
            refine lv_iconst (v := 0) hx hb dX12_isAhead_137 (by decide) ?_
            have hq := (Option.some.inj hf)
            subst hq
            exact z_zret S hG hS hlocks (Or.inl rfl) hr dX12_isAhead_138
          · have hf := zif_n c11 hf
            exact KJ133 H locs ls hG hS (lv_sub hl [1, 2, 3, 4] rfl) hf
    · have hf := zif_p c8 hf
      refine lv_iload_n hx hb dX12_isAhead_101 rfl (lv_at hl 3 rfl) ?_
      refine lv_iload_n hx hb dX12_isAhead_102 rfl (lv_at hl 4 rfl) ?_
      refine lv_icmp_ge (tgt := 110) hx hb dX12_isAhead_103 (by decide) (fun c12 => ?_) (fun c12 => ?_)
      · have hf := zif_p c12 hf
        refine lv_iconst (v := 0) hx hb dX12_isAhead_110 (by decide) ?_
        refine lv_goto (tgt := 138) hx hb dX12_isAhead_111 (by decide) ?_
        have hq := (Option.some.inj hf)
        subst hq
        exact z_zret S hG hS hlocks (Or.inl rfl) hr dX12_isAhead_138
      · have hf := zif_n c12 hf
        refine lv_iconst (v := 1) hx hb dX12_isAhead_106 (by decide) ?_
        refine lv_goto (tgt := 138) hx hb dX12_isAhead_107 (by decide) ?_
        have hq := (Option.some.inj hf)
        subst hq
        exact z_zret S hG hS hlocks (Or.inr rfl) hr dX12_isAhead_138
  have KJ91 : ∀ (y4b91 : Int32)   (H : Heap) (locs : List Loc) (ls : Array Slot), zG D aC A nl ad σ s H → va_S A s.heap H locs → lv_has ls 6 [(0, .ref (ad 12 0 0)), (1, .int x1), (2, .int x2), (3, .int x3), (4, .int y4b91)] → (f_X12_isAhead_B91 σ x1 x2 x3 y4b91) = some r → zWk p l e ({ frames := 2, cells := 0, slots := 0, locals := 49 } : Room) s m args below meth c A (some (.int r)) (fun t => zG D aC A nl ad σ t t.heap ∧ (r = 0 ∨ r = 1)) H locs (F0 m 91 ls []) := by
    intro y4b91   H locs ls hG hS hl hf
    unfold f_X12_isAhead_B91 at hf
    refine lv_iconst (v := (-1)) hx hb dX12_isAhead_91 (by decide) ?_
    exact KJ92 y4b91 (-1) H locs ls hG hS (lv_sub hl [0, 1, 2, 3, 4] rfl) hf
  have KJ63 : ∀ (t0b63 : Int32)   (H : Heap) (locs : List Loc) (ls : Array Slot), zG D aC A nl ad σ s H → va_S A s.heap H locs → lv_has ls 6 [(0, .ref (ad 12 0 0)), (1, .int x1), (2, .int x2), (3, .int x3)] → (f_X12_isAhead_B63 σ x1 x2 x3 t0b63) = some r → zWk p l e ({ frames := 2, cells := 0, slots := 0, locals := 49 } : Room) s m args below meth c A (some (.int r)) (fun t => zG D aC A nl ad σ t t.heap ∧ (r = 0 ∨ r = 1)) H locs (F0 m 63 ls [.int t0b63]) := by
    intro t0b63   H locs ls hG hS hl hf
    unfold f_X12_isAhead_B63 at hf
    refine lv_istore (lv' := [(4, .int t0b63), (0, .ref (ad 12 0 0)), (1, .int x1), (2, .int x2), (3, .int x3)]) hx hb dX12_isAhead_63 hl (by decide) rfl (fun ls hl => ?_)
    refine lv_aload_n hx hb dX12_isAhead_65 rfl (lv_at hl 1 rfl) ?_
    refine z_get (c0 := 12) (i0 := 0) (k0 := 61) (T := TX12) (v := .ref (ad 12 0 62)) S hG (hZ.2.1 (12, 0) (by decide)) rfl inlX12 (by decide) rfl zw_263 rfl dX12_isAhead_66 ?_
    refine lv_iload_n hx hb dX12_isAhead_69 rfl (lv_at hl 2 rfl) ?_
    obtain ⟨i6, hi6, hf⟩ := zbi hf
    refine z_iald (c0 := 12) (i0 := 0) (k0 := 61) S hG (hZ.2.1 (12, 0) (by decide)) (by decide) rfl hi6 dX12_isAhead_70 ?_
    refine lv_if_ne (tgt := 91) hx hb dX12_isAhead_71 (by decide) (fun c7 => ?_) (fun c7 => ?_)
    · have hf := zif_n c7 hf
      exact KJ91 t0b63 H locs ls hG hS (lv_sub hl [1, 2, 3, 4, 0] rfl) hf
    · have hf := zif_p c7 hf
      refine lv_aload_n hx hb dX12_isAhead_74 rfl (lv_at hl 1 rfl) ?_
      refine z_get (c0 := 12) (i0 := 0) (k0 := 48) (T := TX12) (v := .int (zI σ 12 0 48)) S hG (hZ.2.1 (12, 0) (by decide)) rfl inlX12 (by decide) rfl zw_1202 rfl dX12_isAhead_75 ?_
      refine lv_if_le (tgt := 91) hx hb dX12_isAhead_78 (by decide) (fun c13 => ?_) (fun c13 => ?_)
      · have hf := zif_p c13 hf
        exact KJ91 t0b63 H locs ls hG hS (lv_sub hl [1, 2, 3, 4, 0] rfl) hf
      · have hf := zif_n c13 hf
        refine lv_aload_n hx hb dX12_isAhead_81 rfl (lv_at hl 1 rfl) ?_
        refine lv_iload_n hx hb dX12_isAhead_82 rfl (lv_at hl 2 rfl) ?_
        refine lv_iconst (v := 0) hx hb dX12_isAhead_83 (by decide) ?_
        refine lv_iload_n hx hb dX12_isAhead_84 rfl (lv_at hl 4 rfl) ?_
        obtain ⟨r14, er14, hf⟩ := zbi hf
        refine z_callV (n := 3) (rest := []) (st1 := [.int r14]) (c0 := 12) (i0 := 0) (hZ.2.1 (12, 0) (by decide)) (by rfl) S hG hS hZ (fun _ _ h => h) (c_X12_placeIn l D aC zs A nl ad σ x1 0 x3 r14 er14) zw_1374 zw_1375 zw_1376 zw_5 zw_1377 (by decide +kernel) ⟨rfl, rfl⟩ ⟨(Nat.le_of_ble_eq_true rfl), (Nat.le_of_ble_eq_true rfl)⟩ hl.1 rfl (by rfl) (by rfl) (Nat.le_of_ble_eq_true rfl) dX12_isAhead_85 ⟨Nat.zero_le _, Nat.zero_le _⟩ (fun H locs hz15 hG hS => ?_)
        refine lv_goto (tgt := 92) hx hb dX12_isAhead_88 (by decide) ?_
        exact KJ92 t0b63 r14 H locs ls hG hS (lv_sub hl [1, 2, 3, 4, 0] rfl) hf
  have KJ62 : ∀ (H : Heap) (locs : List Loc) (ls : Array Slot), zG D aC A nl ad σ s H → va_S A s.heap H locs → lv_has ls 6 [(0, .ref (ad 12 0 0)), (1, .int x1), (2, .int x2), (3, .int x3)] → (f_X12_isAhead_B62 σ x1 x2 x3) = some r → zWk p l e ({ frames := 2, cells := 0, slots := 0, locals := 49 } : Room) s m args below meth c A (some (.int r)) (fun t => zG D aC A nl ad σ t t.heap ∧ (r = 0 ∨ r = 1)) H locs (F0 m 62 ls []) := by
    intro    H locs ls hG hS hl hf
    unfold f_X12_isAhead_B62 at hf
    refine lv_iconst (v := (-1)) hx hb dX12_isAhead_62 (by decide) ?_
    exact KJ63 (-1) H locs ls hG hS (lv_sub hl [0, 1, 2, 3] rfl) hf
  have hK0 : ∀ (H : Heap) (locs : List Loc) (ls : Array Slot), zG D aC A nl ad σ s H → va_S A s.heap H locs → lv_has ls 6 [(0, .ref (ad 12 0 0)), (1, .int x1), (2, .int x2), (3, .int x3)] → f_X12_isAhead σ x1 x2 x3 = some r → zWk p l e ({ frames := 2, cells := 0, slots := 0, locals := 49 } : Room) s m args below meth c A (some (.int r)) (fun t => zG D aC A nl ad σ t t.heap ∧ (r = 0 ∨ r = 1)) H locs (F0 m 0 ls []) := by
    intro H locs ls hG hS hl hf
    unfold f_X12_isAhead at hf
    refine lv_aload_n hx hb dX12_isAhead_0 rfl (lv_at hl 0 rfl) ?_
    refine z_get (c0 := 12) (i0 := 0) (k0 := 62) (T := TX12) (v := .ref (ad 12 0 63)) S hG (hZ.2.1 (12, 0) (by decide)) rfl inlX12 (by decide) rfl zw_264 rfl dX12_isAhead_1 ?_
    refine lv_iload_n hx hb dX12_isAhead_4 rfl (lv_at hl 2 rfl) ?_
    obtain ⟨i1, hi1, hf⟩ := zbi hf
    refine z_iald (c0 := 12) (i0 := 0) (k0 := 62) S hG (hZ.2.1 (12, 0) (by decide)) (by decide) rfl hi1 dX12_isAhead_5 ?_
    refine lv_aload_n hx hb dX12_isAhead_6 rfl (lv_at hl 0 rfl) ?_
    refine z_get (c0 := 12) (i0 := 0) (k0 := 62) (T := TX12) (v := .ref (ad 12 0 63)) S hG (hZ.2.1 (12, 0) (by decide)) rfl inlX12 (by decide) rfl zw_264 rfl dX12_isAhead_7 ?_
    refine lv_iload_n hx hb dX12_isAhead_10 rfl (lv_at hl 3 rfl) ?_
    obtain ⟨i2, hi2, hf⟩ := zbi hf
    refine z_iald (c0 := 12) (i0 := 0) (k0 := 62) S hG (hZ.2.1 (12, 0) (by decide)) (by decide) rfl hi2 dX12_isAhead_11 ?_
    refine lv_icmp_eq (tgt := 36) hx hb dX12_isAhead_12 (by decide) (fun c3 => ?_) (fun c3 => ?_)
    · have hf := zif_p c3 hf
      refine lv_aload_n hx hb dX12_isAhead_36 rfl (lv_at hl 0 rfl) ?_
      refine z_get (c0 := 12) (i0 := 0) (k0 := 61) (T := TX12) (v := .ref (ad 12 0 62)) S hG (hZ.2.1 (12, 0) (by decide)) rfl inlX12 (by decide) rfl zw_263 rfl dX12_isAhead_37 ?_
      refine lv_iload_n hx hb dX12_isAhead_40 rfl (lv_at hl 1 rfl) ?_
      obtain ⟨i4, hi4, hf⟩ := zbi hf
      refine z_iald (c0 := 12) (i0 := 0) (k0 := 61) S hG (hZ.2.1 (12, 0) (by decide)) (by decide) rfl hi4 dX12_isAhead_41 ?_
      refine lv_if_ne (tgt := 62) hx hb dX12_isAhead_42 (by decide) (fun c5 => ?_) (fun c5 => ?_)
      · have hf := zif_n c5 hf
        exact KJ62 H locs ls hG hS (lv_sub hl [0, 1, 2, 3] rfl) hf
      · have hf := zif_p c5 hf
        refine lv_aload_n hx hb dX12_isAhead_45 rfl (lv_at hl 0 rfl) ?_
        refine z_get (c0 := 12) (i0 := 0) (k0 := 48) (T := TX12) (v := .int (zI σ 12 0 48)) S hG (hZ.2.1 (12, 0) (by decide)) rfl inlX12 (by decide) rfl zw_1202 rfl dX12_isAhead_46 ?_
        refine lv_if_le (tgt := 62) hx hb dX12_isAhead_49 (by decide) (fun c16 => ?_) (fun c16 => ?_)
        · have hf := zif_p c16 hf
          exact KJ62 H locs ls hG hS (lv_sub hl [0, 1, 2, 3] rfl) hf
        · have hf := zif_n c16 hf
          refine lv_aload_n hx hb dX12_isAhead_52 rfl (lv_at hl 0 rfl) ?_
          refine lv_iload_n hx hb dX12_isAhead_53 rfl (lv_at hl 1 rfl) ?_
          refine lv_iconst (v := 0) hx hb dX12_isAhead_54 (by decide) ?_
          refine lv_iload_n hx hb dX12_isAhead_55 rfl (lv_at hl 2 rfl) ?_
          obtain ⟨r17, er17, hf⟩ := zbi hf
          refine z_callV (n := 3) (rest := []) (st1 := [.int r17]) (c0 := 12) (i0 := 0) (hZ.2.1 (12, 0) (by decide)) (by rfl) S hG hS hZ (fun _ _ h => h) (c_X12_placeIn l D aC zs A nl ad σ x1 0 x2 r17 er17) zw_1374 zw_1375 zw_1376 zw_5 zw_1377 (by decide +kernel) ⟨rfl, rfl⟩ ⟨(Nat.le_of_ble_eq_true rfl), (Nat.le_of_ble_eq_true rfl)⟩ hl.1 rfl (by rfl) (by rfl) (Nat.le_of_ble_eq_true rfl) dX12_isAhead_56 ⟨Nat.zero_le _, Nat.zero_le _⟩ (fun H locs hz18 hG hS => ?_)
          refine lv_goto (tgt := 63) hx hb dX12_isAhead_59 (by decide) ?_
          exact KJ63 r17 H locs ls hG hS (lv_sub hl [0, 1, 2, 3] rfl) hf
    · have hf := zif_n c3 hf
      refine lv_aload_n hx hb dX12_isAhead_15 rfl (lv_at hl 0 rfl) ?_
      refine z_get (c0 := 12) (i0 := 0) (k0 := 62) (T := TX12) (v := .ref (ad 12 0 63)) S hG (hZ.2.1 (12, 0) (by decide)) rfl inlX12 (by decide) rfl zw_264 rfl dX12_isAhead_16 ?_
      refine lv_iload_n hx hb dX12_isAhead_19 rfl (lv_at hl 2 rfl) ?_
      obtain ⟨i19, hi19, hf⟩ := zbi hf
      refine z_iald (c0 := 12) (i0 := 0) (k0 := 62) S hG (hZ.2.1 (12, 0) (by decide)) (by decide) rfl hi19 dX12_isAhead_20 ?_
      refine lv_aload_n hx hb dX12_isAhead_21 rfl (lv_at hl 0 rfl) ?_
      refine z_get (c0 := 12) (i0 := 0) (k0 := 62) (T := TX12) (v := .ref (ad 12 0 63)) S hG (hZ.2.1 (12, 0) (by decide)) rfl inlX12 (by decide) rfl zw_264 rfl dX12_isAhead_22 ?_
      refine lv_iload_n hx hb dX12_isAhead_25 rfl (lv_at hl 3 rfl) ?_
      obtain ⟨i20, hi20, hf⟩ := zbi hf
      refine z_iald (c0 := 12) (i0 := 0) (k0 := 62) S hG (hZ.2.1 (12, 0) (by decide)) (by decide) rfl hi20 dX12_isAhead_26 ?_
      refine lv_icmp_le (tgt := 34) hx hb dX12_isAhead_27 (by decide) (fun c21 => ?_) (fun c21 => ?_)
      · have hf := zif_p c21 hf
        refine lv_iconst (v := 0) hx hb dX12_isAhead_34 (by decide) ?_
        have hq := (Option.some.inj hf)
        subst hq
        exact z_zret S hG hS hlocks (Or.inl rfl) hr dX12_isAhead_35
      · have hf := zif_n c21 hf
        refine lv_iconst (v := 1) hx hb dX12_isAhead_30 (by decide) ?_
        refine lv_goto (tgt := 35) hx hb dX12_isAhead_31 (by decide) ?_
        have hq := (Option.some.inj hf)
        subst hq
        exact z_zret S hG hS hlocks (Or.inr rfl) hr dX12_isAhead_35
  exact hK0 _ _ ls hG hS hl hf
set_option maxRecDepth 100000 in
set_option maxHeartbeats 4000000 in
theorem c_X12_ranks (l : Launch) (D : va_G) (aC : Nat → ClassId) (zs : Nat × Nat) (A : Nat → Prop) (nl : zNL) (ad : Nat → Nat → Nat → Nat) (σ : zM) (x1 : Int32) (x2 : Int32)  (σ' : zM)  (hf : f_X12_ranks σ x1 x2 = some σ') : Met l yX12_ranks (Cond.code yX12_ranks cX12_ranks 5 none :: wsL_law) ({ frames := 5, cells := 0, slots := 0, locals := 123 } : Room) (zP D aC zs zfM A nl ad σ [.ref (ad 12 0 0), .int x1, .int x2]) (zQ none (fun t => zG D aC A nl ad σ' t t.heap ∧ True) A) 0 0 A := by
  refine Met.ofW (cc := cX12_ranks) (maxL := 5) (ret := none) (by decide) rfl ?_
  intro p e s m args below meth c s₁ B hml hv
  obtain ⟨rfl, hG, hZ⟩ := hv
  have hx := B.exec
  have hb := B.bytes
  have hr := B.returns
  have hts : ∀ w ∈ wsL_law, w.before ([.ref (ad 12 0 0), .int x1, .int x2] : List Value).toArray s = true := fun w h => (atoms_spec B.pre) w (List.mem_cons_of_mem _ h)
  have hown : s.vm.findClass RX12 = some m.cls := findClass_of_methodNamed B.named
  have hlocks := B.notSynchronized
  have S : zS p m c cX12_ranks 5 s ([.ref (ad 12 0 0), .int x1, .int x2] : List Value).toArray RX12 := ⟨hx, hb, hml, hown, hts⟩
  have hS : va_S A s.heap s.heap [] := va_S.rf
  have hl := lv_entry ([.ref (ad 12 0 0), .int x1, .int x2]) (n := 5) (Nat.le_of_ble_eq_true rfl)
  rw [lg_entry_eq]
  generalize (lg_sl ([.ref (ad 12 0 0), .int x1, .int x2]) ++ List.replicate (5 - (lg_sl ([.ref (ad 12 0 0), .int x1, .int x2])).length) Slot.unset).toArray = ls at hl ⊢
  have hl : lv_has ls 5 [(0, .ref (ad 12 0 0)), (1, .int x1), (2, .int x2)] := hl
  generalize hargs : ([.ref (ad 12 0 0), .int x1, .int x2] : List Value).toArray = args at S hts ⊢
  clear hargs
  have hK0 : ∀ (H : Heap) (locs : List Loc) (ls : Array Slot), zG D aC A nl ad σ s H → va_S A s.heap H locs → lv_has ls 5 [(0, .ref (ad 12 0 0)), (1, .int x1), (2, .int x2)] → f_X12_ranks σ x1 x2 = some σ' → zWk p l e ({ frames := 5, cells := 0, slots := 0, locals := 123 } : Room) s m args below meth c A none (fun t => zG D aC A nl ad σ' t t.heap ∧ True) H locs (F0 m 0 ls []) := by
    intro H locs ls hG hS hl hf
    unfold f_X12_ranks at hf
    refine lv_aload_n hx hb dX12_ranks_0 rfl (lv_at hl 0 rfl) ?_
    refine lv_iconst (v := 0) hx hb dX12_ranks_1 (by decide) ?_
    refine z_putI (c0 := 12) (i0 := 0) (k0 := 64) (T := TX12) S hG hS tyX12 tyX12_ok nmX12 (hZ.2.1 (12, 0) (by decide)) rfl inlX12 (by decide) rfl rfl zw_1353 (by decide +kernel) rfl dX12_ranks_2 (fun H locs hG hS => ?_)
    obtain ⟨σ1, eσ1, hf⟩ := zlt_s hf
    rw [← eσ1] at hG
    refine lv_iconst (v := 0) hx hb dX12_ranks_5 (by decide) ?_
    refine lv_istore_n (lv' := [(3, .int 0), (0, .ref (ad 12 0 0)), (1, .int x1), (2, .int x2)]) hx hb dX12_ranks_6 rfl hl (by decide) rfl (fun ls hl => ?_)
    obtain ⟨t7, hw7, hfo7⟩ := zbi hf
    have KL7 : ∀ (n : Nat) (y3l7 : Int32) (σl7 : zM) (H : Heap) (locs : List Loc) (ls : Array Slot), zG D aC A nl ad σl7 s H → va_S A s.heap H locs → lv_has ls 5 [(0, .ref (ad 12 0 0)), (1, .int x1), (2, .int x2), (3, .int y3l7)] → zwh (fun (q : (Int32 × zM)) => f_X12_ranks_L7 x1 x2 q.1 q.2) n (y3l7, σl7) = some t7 → zWk p l e ({ frames := 5, cells := 0, slots := 0, locals := 123 } : Room) s m args below meth c A none (fun t => zG D aC A nl ad σ' t t.heap ∧ True) H locs (F0 m 7 ls []) := by
      intro n
      induction n with
      | zero =>
        intro y3l7 σl7 H locs ls hG hS hl hw
        exact (zwh_0 hw).elim
      | succ n ih7 =>
        intro y3l7 σl7 H locs ls hG hS hl hw
        obtain ⟨rr7, hf, hk7⟩ := zwh_u hw
        have hf : f_X12_ranks_L7 x1 x2 y3l7 σl7 = some rr7 := hf
        unfold f_X12_ranks_L7 at hf
        have KJ109_7 : ∀ (y3b109 : Int32)  (σb109_7 : zM) (H : Heap) (locs : List Loc) (ls : Array Slot), zG D aC A nl ad σb109_7 s H → va_S A s.heap H locs → lv_has ls 5 [(0, .ref (ad 12 0 0)), (1, .int x1), (2, .int x2), (3, .int y3b109)] → (f_X12_ranks_B109_7 σb109_7 x1 x2 y3b109) = some rr7 → zWk p l e ({ frames := 5, cells := 0, slots := 0, locals := 123 } : Room) s m args below meth c A none (fun t => zG D aC A nl ad σ' t t.heap ∧ True) H locs (F0 m 109 ls []) := by
          intro y3b109  σb109_7 H locs ls hG hS hl hf
          unfold f_X12_ranks_B109_7 at hf
          refine lv_iinc (v := (y3b109 + 1)) (lv' := [(3, .int (y3b109 + 1)), (0, .ref (ad 12 0 0)), (1, .int x1), (2, .int x2)]) hx hb dX12_ranks_109 hl (k := 3) rfl rfl (by decide) rfl (fun ls hl => ?_)
          refine lv_goto (tgt := 7) hx hb dX12_ranks_112 (by decide) ?_
          cases hf
          exact ih7 (y3b109 + 1) σb109_7 H locs ls hG hS (lv_sub hl [1, 2, 3, 0] rfl) hk7
        have KJ91_7 : ∀ (y3b91 : Int32) (y4b91 : Int32)  (σb91_7 : zM) (H : Heap) (locs : List Loc) (ls : Array Slot), zG D aC A nl ad σb91_7 s H → va_S A s.heap H locs → lv_has ls 5 [(0, .ref (ad 12 0 0)), (1, .int x1), (2, .int x2), (3, .int y3b91), (4, .int y4b91)] → (f_X12_ranks_B91_7 σb91_7 x1 x2 y3b91 y4b91) = some rr7 → zWk p l e ({ frames := 5, cells := 0, slots := 0, locals := 123 } : Room) s m args below meth c A none (fun t => zG D aC A nl ad σ' t t.heap ∧ True) H locs (F0 m 91 ls []) := by
          intro y3b91 y4b91  σb91_7 H locs ls hG hS hl hf
          unfold f_X12_ranks_B91_7 at hf
          refine lv_aload_n hx hb dX12_ranks_91 rfl (lv_at hl 0 rfl) ?_
          refine z_get (c0 := 12) (i0 := 0) (k0 := 63) (T := TX12) (v := .ref (ad 12 0 64)) S hG (hZ.2.1 (12, 0) (by decide)) rfl inlX12 (by decide) rfl zw_265 rfl dX12_ranks_92 ?_
          refine lv_iload hx hb dX12_ranks_95 (lv_at hl 4 rfl) ?_
          refine lv_iload_n hx hb dX12_ranks_97 rfl (lv_at hl 3 rfl) ?_
          obtain ⟨i38, hi38, hf⟩ := zbi hf
          refine z_iast (c0 := 12) (i0 := 0) (k0 := 63) S hG hS (hZ.2.1 (12, 0) (by decide)) (by decide) rfl hi38 dX12_ranks_98 (fun H locs hG hS => ?_)
          obtain ⟨σ39, eσ39, hf⟩ := zlt_s hf
          rw [← eσ39] at hG
          refine lv_aload_n hx hb dX12_ranks_99 rfl (lv_at hl 0 rfl) ?_
          refine lv_dup hx hb dX12_ranks_100 rfl ?_
          refine z_get (c0 := 12) (i0 := 0) (k0 := 64) (T := TX12) (v := .int (zI σ39 12 0 64)) S hG (hZ.2.1 (12, 0) (by decide)) rfl inlX12 (by decide) rfl zw_1353 rfl dX12_ranks_101 ?_
          refine lv_iconst (v := 1) hx hb dX12_ranks_104 (by decide) ?_
          refine lv_iadd hx hb dX12_ranks_105 ?_
          refine z_putI (c0 := 12) (i0 := 0) (k0 := 64) (T := TX12) S hG hS tyX12 tyX12_ok nmX12 (hZ.2.1 (12, 0) (by decide)) rfl inlX12 (by decide) rfl rfl zw_1353 (by decide +kernel) rfl dX12_ranks_106 (fun H locs hG hS => ?_)
          obtain ⟨σ40, eσ40, hf⟩ := zlt_s hf
          rw [← eσ40] at hG
          exact KJ109_7 y3b91 σ40 H locs ls hG hS (lv_sub hl [0, 1, 2, 3] rfl) hf
        refine lv_iload_n hx hb dX12_ranks_7 rfl (lv_at hl 3 rfl) ?_
        refine lv_aload_n hx hb dX12_ranks_8 rfl (lv_at hl 0 rfl) ?_
        refine z_get (c0 := 12) (i0 := 0) (k0 := 1) (T := TX12) (v := .int (zI σl7 12 0 1)) S hG (hZ.2.1 (12, 0) (by decide)) rfl inlX12 (by decide) rfl zw_801 rfl dX12_ranks_9 ?_
        refine lv_icmp_ge (tgt := 115) hx hb dX12_ranks_12 (by decide) (fun c29 => ?_) (fun c29 => ?_)
        · have hf := zif_p c29 hf
          cases hf
          have hk7 : (σl7 : zM) = t7 := hk7
          have hf := hfo7
          rw [← hk7] at hf
          have hf : (some σl7) = some σ' := hf
          have hq := (Option.some.inj hf)
          subst hq
          exact z_vret S hG hS hlocks trivial hr dX12_ranks_115
        · have hf := zif_n c29 hf
          refine lv_aload_n hx hb dX12_ranks_15 rfl (lv_at hl 0 rfl) ?_
          refine lv_iload_n hx hb dX12_ranks_16 rfl (lv_at hl 1 rfl) ?_
          refine lv_iload_n hx hb dX12_ranks_17 rfl (lv_at hl 3 rfl) ?_
          obtain ⟨r30, er30, hf⟩ := zbi hf
          refine z_callV (n := 2) (rest := []) (st1 := [.int r30]) (c0 := 12) (i0 := 0) (hZ.2.1 (12, 0) (by decide)) (by rfl) S hG hS hZ (fun _ _ h => h) (c_X12_isInRound l D aC zs A nl ad σl7 x1 y3l7 r30 er30) zw_1358 zw_1359 zw_1360 zw_5 zw_1361 (by decide +kernel) ⟨rfl, rfl⟩ ⟨(Nat.le_of_ble_eq_true rfl), (Nat.le_of_ble_eq_true rfl)⟩ hl.1 rfl (by rfl) (by rfl) (Nat.le_of_ble_eq_true rfl) dX12_ranks_18 ⟨Nat.zero_le _, Nat.zero_le _⟩ (fun H locs hz31 hG hS => ?_)
          refine lv_if_ne (tgt := 27) hx hb dX12_ranks_21 (by decide) (fun c32 => ?_) (fun c32 => ?_)
          · have hf := zif_n c32 hf
            refine lv_aload_n hx hb dX12_ranks_27 rfl (lv_at hl 0 rfl) ?_
            refine z_get (c0 := 12) (i0 := 0) (k0 := 62) (T := TX12) (v := .ref (ad 12 0 63)) S hG (hZ.2.1 (12, 0) (by decide)) rfl inlX12 (by decide) rfl zw_264 rfl dX12_ranks_28 ?_
            refine lv_iload_n hx hb dX12_ranks_31 rfl (lv_at hl 3 rfl) ?_
            refine lv_aload_n hx hb dX12_ranks_32 rfl (lv_at hl 0 rfl) ?_
            refine lv_iload_n hx hb dX12_ranks_33 rfl (lv_at hl 1 rfl) ?_
            refine lv_iload_n hx hb dX12_ranks_34 rfl (lv_at hl 2 rfl) ?_
            refine lv_iload_n hx hb dX12_ranks_35 rfl (lv_at hl 3 rfl) ?_
            obtain ⟨r33, er33, hf⟩ := zbi hf
            refine z_callV (n := 3) (rest := [.int y3l7, .ref (ad 12 0 63)]) (st1 := [.int r33, .int y3l7, .ref (ad 12 0 63)]) (c0 := 12) (i0 := 0) (hZ.2.1 (12, 0) (by decide)) (by rfl) S hG hS hZ (fun _ _ h => h) (c_X12_pointsOf l D aC zs A nl ad σl7 x1 x2 y3l7 r33 er33) zw_1366 zw_1367 zw_1368 zw_5 zw_1369 (by decide +kernel) ⟨rfl, rfl⟩ ⟨(Nat.le_of_ble_eq_true rfl), (Nat.le_of_ble_eq_true rfl)⟩ hl.1 rfl (by rfl) (by rfl) (Nat.le_of_ble_eq_true rfl) dX12_ranks_36 ⟨Nat.zero_le _, Nat.zero_le _⟩ (fun H locs hz34 hG hS => ?_)
            obtain ⟨i35, hi35, hf⟩ := zbi hf
            refine z_iast (c0 := 12) (i0 := 0) (k0 := 62) S hG hS (hZ.2.1 (12, 0) (by decide)) (by decide) rfl hi35 dX12_ranks_39 (fun H locs hG hS => ?_)
            obtain ⟨σ36, eσ36, hf⟩ := zlt_s hf
            rw [← eσ36] at hG
            refine lv_aload_n hx hb dX12_ranks_40 rfl (lv_at hl 0 rfl) ?_
            refine z_get (c0 := 12) (i0 := 0) (k0 := 64) (T := TX12) (v := .int (zI σ36 12 0 64)) S hG (hZ.2.1 (12, 0) (by decide)) rfl inlX12 (by decide) rfl zw_1353 rfl dX12_ranks_41 ?_
            refine lv_istore (lv' := [(4, .int (zI σ36 12 0 64)), (0, .ref (ad 12 0 0)), (1, .int x1), (2, .int x2), (3, .int y3l7)]) hx hb dX12_ranks_44 hl (by decide) rfl (fun ls hl => ?_)
            obtain ⟨t46, hw46, hfo46⟩ := zbi hf
            have KL46 : ∀ (n : Nat) (y4l46 : Int32) (σl46 : zM) (H : Heap) (locs : List Loc) (ls : Array Slot), zG D aC A nl ad σl46 s H → va_S A s.heap H locs → lv_has ls 5 [(0, .ref (ad 12 0 0)), (1, .int x1), (2, .int x2), (3, .int y3l7), (4, .int y4l46)] → zwh (fun (q : (Int32 × zM)) => f_X12_ranks_L46 x1 x2 y3l7 q.1 q.2) n (y4l46, σl46) = some t46 → zWk p l e ({ frames := 5, cells := 0, slots := 0, locals := 123 } : Room) s m args below meth c A none (fun t => zG D aC A nl ad σ' t t.heap ∧ True) H locs (F0 m 46 ls []) := by
              intro n
              induction n with
              | zero =>
                intro y4l46 σl46 H locs ls hG hS hl hw
                exact (zwh_0 hw).elim
              | succ n ih46 =>
                intro y4l46 σl46 H locs ls hG hS hl hw
                obtain ⟨rr46, hf, hk46⟩ := zwh_u hw
                have hf : f_X12_ranks_L46 x1 x2 y3l7 y4l46 σl46 = some rr46 := hf
                unfold f_X12_ranks_L46 at hf
                refine lv_iload hx hb dX12_ranks_46 (lv_at hl 4 rfl) ?_
                refine lv_if_le (tgt := 91) hx hb dX12_ranks_48 (by decide) (fun c48 => ?_) (fun c48 => ?_)
                · have hf := zif_p c48 hf
                  cases hf
                  have hk46 : ((y4l46, σl46) : (Int32 × zM)) = t46 := hk46
                  have hf := hfo46
                  rw [← hk46] at hf
                  have hf : (f_X12_ranks_B91_7 σl46 x1 x2 y3l7 y4l46) = some rr7 := hf
                  exact KJ91_7 y3l7 y4l46 σl46 H locs ls hG hS (lv_sub hl [0, 1, 2, 3, 4] rfl) hf
                · have hf := zif_n c48 hf
                  refine lv_aload_n hx hb dX12_ranks_51 rfl (lv_at hl 0 rfl) ?_
                  refine lv_iload_n hx hb dX12_ranks_52 rfl (lv_at hl 1 rfl) ?_
                  refine lv_iload_n hx hb dX12_ranks_53 rfl (lv_at hl 3 rfl) ?_
                  refine lv_aload_n hx hb dX12_ranks_54 rfl (lv_at hl 0 rfl) ?_
                  refine z_get (c0 := 12) (i0 := 0) (k0 := 63) (T := TX12) (v := .ref (ad 12 0 64)) S hG (hZ.2.1 (12, 0) (by decide)) rfl inlX12 (by decide) rfl zw_265 rfl dX12_ranks_55 ?_
                  refine lv_iload hx hb dX12_ranks_58 (lv_at hl 4 rfl) ?_
                  refine lv_iconst (v := 1) hx hb dX12_ranks_60 (by decide) ?_
                  refine lv_isub hx hb dX12_ranks_61 ?_
                  obtain ⟨i49, hi49, hf⟩ := zbi hf
                  refine z_iald (c0 := 12) (i0 := 0) (k0 := 63) S hG (hZ.2.1 (12, 0) (by decide)) (by decide) rfl hi49 dX12_ranks_62 ?_
                  obtain ⟨r50, er50, hf⟩ := zbi hf
                  refine z_callV (n := 3) (rest := []) (st1 := [.int r50]) (c0 := 12) (i0 := 0) (hZ.2.1 (12, 0) (by decide)) (by rfl) S hG hS hZ (fun _ _ h => h) (c_X12_isAhead l D aC zs A nl ad σl46 x1 y3l7 (zA σl46 12 0 63 i49) r50 er50) zw_1382 zw_1383 zw_1384 zw_5 zw_1385 (by decide +kernel) ⟨rfl, rfl⟩ ⟨(Nat.le_of_ble_eq_true rfl), (Nat.le_of_ble_eq_true rfl)⟩ hl.1 rfl (by rfl) (by rfl) (Nat.le_of_ble_eq_true rfl) dX12_ranks_63 ⟨Nat.zero_le _, Nat.zero_le _⟩ (fun H locs hz51 hG hS => ?_)
                  refine lv_if_eq (tgt := 91) hx hb dX12_ranks_66 (by decide) (fun c52 => ?_) (fun c52 => ?_)
                  · have hf := zif_p c52 hf
                    cases hf
                    have hk46 : ((y4l46, σl46) : (Int32 × zM)) = t46 := hk46
                    have hf := hfo46
                    rw [← hk46] at hf
                    have hf : (f_X12_ranks_B91_7 σl46 x1 x2 y3l7 y4l46) = some rr7 := hf
                    exact KJ91_7 y3l7 y4l46 σl46 H locs ls hG hS (lv_sub hl [0, 1, 2, 3, 4] rfl) hf
                  · have hf := zif_n c52 hf
                    refine lv_aload_n hx hb dX12_ranks_69 rfl (lv_at hl 0 rfl) ?_
                    refine z_get (c0 := 12) (i0 := 0) (k0 := 63) (T := TX12) (v := .ref (ad 12 0 64)) S hG (hZ.2.1 (12, 0) (by decide)) rfl inlX12 (by decide) rfl zw_265 rfl dX12_ranks_70 ?_
                    refine lv_iload hx hb dX12_ranks_73 (lv_at hl 4 rfl) ?_
                    refine lv_aload_n hx hb dX12_ranks_75 rfl (lv_at hl 0 rfl) ?_
                    refine z_get (c0 := 12) (i0 := 0) (k0 := 63) (T := TX12) (v := .ref (ad 12 0 64)) S hG (hZ.2.1 (12, 0) (by decide)) rfl inlX12 (by decide) rfl zw_265 rfl dX12_ranks_76 ?_
                    refine lv_iload hx hb dX12_ranks_79 (lv_at hl 4 rfl) ?_
                    refine lv_iconst (v := 1) hx hb dX12_ranks_81 (by decide) ?_
                    refine lv_isub hx hb dX12_ranks_82 ?_
                    obtain ⟨i53, hi53, hf⟩ := zbi hf
                    refine z_iald (c0 := 12) (i0 := 0) (k0 := 63) S hG (hZ.2.1 (12, 0) (by decide)) (by decide) rfl hi53 dX12_ranks_83 ?_
                    obtain ⟨i54, hi54, hf⟩ := zbi hf
                    refine z_iast (c0 := 12) (i0 := 0) (k0 := 63) S hG hS (hZ.2.1 (12, 0) (by decide)) (by decide) rfl hi54 dX12_ranks_84 (fun H locs hG hS => ?_)
                    obtain ⟨σ55, eσ55, hf⟩ := zlt_s hf
                    rw [← eσ55] at hG
                    refine lv_iinc (v := (y4l46 + (-1))) (lv' := [(4, .int (y4l46 + (-1))), (0, .ref (ad 12 0 0)), (1, .int x1), (2, .int x2), (3, .int y3l7)]) hx hb dX12_ranks_85 hl (k := 4) rfl rfl (by decide) rfl (fun ls hl => ?_)
                    refine lv_goto (tgt := 46) hx hb dX12_ranks_88 (by decide) ?_
                    cases hf
                    exact ih46 (y4l46 + (-1)) σ55 H locs ls hG hS (lv_sub hl [1, 2, 3, 4, 0] rfl) hk46
            exact KL46 zFu (zI σ36 12 0 64) σ36 H locs ls hG hS (lv_sub hl [1, 2, 3, 4, 0] rfl) hw46
          · have hf := zif_p c32 hf
            refine lv_goto (tgt := 109) hx hb dX12_ranks_24 (by decide) ?_
            exact KJ109_7 y3l7 σl7 H locs ls hG hS (lv_sub hl [0, 1, 2, 3] rfl) hf
    exact KL7 zFu 0 σ1 H locs ls hG hS (lv_sub hl [1, 2, 3, 0] rfl) hw7
  exact hK0 _ _ ls hG hS hl hf
set_option maxRecDepth 100000 in
set_option maxHeartbeats 4000000 in
theorem c_X12_close (l : Launch) (D : va_G) (aC : Nat → ClassId) (zs : Nat × Nat) (A : Nat → Prop) (nl : zNL) (ad : Nat → Nat → Nat → Nat) (σ : zM)  (r : Int32) (σ' : zM)  (hf : f_X12_close σ = some (r, σ')) : Met l yX12_close (Cond.code yX12_close cX12_close 5 (some .int) :: wsL_law) ({ frames := 6, cells := 0, slots := 0, locals := 147 } : Room) (zP D aC zs zfM A nl ad σ [.ref (ad 12 0 0)]) (zQ (some (.int r)) (fun t => zG D aC A nl ad σ' t t.heap ∧ True) A) 0 0 A := by
  refine Met.ofW (cc := cX12_close) (maxL := 5) (ret := (some .int)) (by decide) rfl ?_
  intro p e s m args below meth c s₁ B hml hv
  obtain ⟨rfl, hG, hZ⟩ := hv
  have hx := B.exec
  have hb := B.bytes
  have hr := B.returns
  have hts : ∀ w ∈ wsL_law, w.before ([.ref (ad 12 0 0)] : List Value).toArray s = true := fun w h => (atoms_spec B.pre) w (List.mem_cons_of_mem _ h)
  have hown : s.vm.findClass RX12 = some m.cls := findClass_of_methodNamed B.named
  have hlocks := B.notSynchronized
  have S : zS p m c cX12_close 5 s ([.ref (ad 12 0 0)] : List Value).toArray RX12 := ⟨hx, hb, hml, hown, hts⟩
  have hS : va_S A s.heap s.heap [] := va_S.rf
  have hl := lv_entry ([.ref (ad 12 0 0)]) (n := 5) (Nat.le_of_ble_eq_true rfl)
  rw [lg_entry_eq]
  generalize (lg_sl ([.ref (ad 12 0 0)]) ++ List.replicate (5 - (lg_sl ([.ref (ad 12 0 0)])).length) Slot.unset).toArray = ls at hl ⊢
  have hl : lv_has ls 5 [(0, .ref (ad 12 0 0))] := hl
  generalize hargs : ([.ref (ad 12 0 0)] : List Value).toArray = args at S hts ⊢
  clear hargs
  have KJ224 : ∀ (σb224 : zM) (H : Heap) (locs : List Loc) (ls : Array Slot), zG D aC A nl ad σb224 s H → va_S A s.heap H locs → lv_has ls 5 [(0, .ref (ad 12 0 0))] → (f_X12_close_B224 σb224) = some (r, σ') → zWk p l e ({ frames := 6, cells := 0, slots := 0, locals := 147 } : Room) s m args below meth c A (some (.int r)) (fun t => zG D aC A nl ad σ' t t.heap ∧ True) H locs (F0 m 224 ls []) := by
    intro   σb224 H locs ls hG hS hl hf
    unfold f_X12_close_B224 at hf
    refine lv_aload_n hx hb dX12_close_224 rfl (lv_at hl 0 rfl) ?_
    refine z_get (c0 := 12) (i0 := 0) (k0 := 65) (T := TX12) (v := .int (zI σb224 12 0 65)) S hG (hZ.2.1 (12, 0) (by decide)) rfl inlX12 (by decide) rfl zw_1295 rfl dX12_close_225 ?_
    obtain ⟨r25, er25, hf⟩ := zbi hf
    refine z_callS (n := 1) (rest := []) (st1 := [.int r25]) S hG hS hZ (fun _ _ h => h) (c_X12_bits l D aC zs A nl ad σb224 (zI σb224 12 0 65) r25 er25) zw_1296 zw_1297 zw_5 zw_1298 (by decide +kernel) ⟨rfl, rfl⟩ ⟨(Nat.le_of_ble_eq_true rfl), (Nat.le_of_ble_eq_true rfl)⟩ hl.1 rfl (by rfl) (by rfl) (Nat.le_of_ble_eq_true rfl) dX12_close_228 ⟨Nat.zero_le _, Nat.zero_le _⟩ (fun H locs hz26 hG hS => ?_)
    obtain ⟨hq1, hq2⟩ := Prod.mk.inj (Option.some.inj hf)
    subst hq1
    subst hq2
    exact z_iret S hG hS hlocks trivial hr dX12_close_231
  have KJ99 : ∀ (y1b99 : Int32) (y2b99 : Int32)  (σb99 : zM) (H : Heap) (locs : List Loc) (ls : Array Slot), zG D aC A nl ad σb99 s H → va_S A s.heap H locs → lv_has ls 5 [(0, .ref (ad 12 0 0)), (1, .int y1b99), (2, .int y2b99)] → (f_X12_close_B99 σb99 y1b99 y2b99) = some (r, σ') → zWk p l e ({ frames := 6, cells := 0, slots := 0, locals := 147 } : Room) s m args below meth c A (some (.int r)) (fun t => zG D aC A nl ad σ' t t.heap ∧ True) H locs (F0 m 99 ls []) := by
    intro y1b99 y2b99  σb99 H locs ls hG hS hl hf
    unfold f_X12_close_B99 at hf
    refine lv_aload_n hx hb dX12_close_99 rfl (lv_at hl 0 rfl) ?_
    refine lv_iconst (v := 0) hx hb dX12_close_100 (by decide) ?_
    refine z_putZ (c0 := 12) (i0 := 0) (k0 := 54) (T := TX12) S hG hS tyX12 tyX12_ok nmX12 (hZ.2.1 (12, 0) (by decide)) rfl inlX12 (by decide) rfl rfl zw_1272 (by decide +kernel) rfl rfl rfl dX12_close_101 (fun H locs hG hS => ?_)
    obtain ⟨σ15, eσ15, hf⟩ := zlt_s hf
    rw [← eσ15] at hG
    refine lv_aload_n hx hb dX12_close_104 rfl (lv_at hl 0 rfl) ?_
    refine lv_dup hx hb dX12_close_105 rfl ?_
    refine z_get (c0 := 12) (i0 := 0) (k0 := 50) (T := TX12) (v := .int (zI σ15 12 0 50)) S hG (hZ.2.1 (12, 0) (by decide)) rfl inlX12 (by decide) rfl zw_1352 rfl dX12_close_106 ?_
    refine lv_iconst (v := 1) hx hb dX12_close_109 (by decide) ?_
    refine lv_iadd hx hb dX12_close_110 ?_
    refine z_putI (c0 := 12) (i0 := 0) (k0 := 50) (T := TX12) S hG hS tyX12 tyX12_ok nmX12 (hZ.2.1 (12, 0) (by decide)) rfl inlX12 (by decide) rfl rfl zw_1352 (by decide +kernel) rfl dX12_close_111 (fun H locs hG hS => ?_)
    obtain ⟨σ16, eσ16, hf⟩ := zlt_s hf
    rw [← eσ16] at hG
    refine lv_aload_n hx hb dX12_close_114 rfl (lv_at hl 0 rfl) ?_
    refine lv_iload_n hx hb dX12_close_115 rfl (lv_at hl 1 rfl) ?_
    refine lv_aload_n hx hb dX12_close_116 rfl (lv_at hl 0 rfl) ?_
    refine z_get (c0 := 12) (i0 := 0) (k0 := 60) (T := TX12) (v := .ref (ad 12 0 61)) S hG (hZ.2.1 (12, 0) (by decide)) rfl inlX12 (by decide) rfl zw_262 rfl dX12_close_117 ?_
    refine lv_iload_n hx hb dX12_close_120 rfl (lv_at hl 1 rfl) ?_
    obtain ⟨i17, hi17, hf⟩ := zbi hf
    refine z_iald (c0 := 12) (i0 := 0) (k0 := 60) S hG (hZ.2.1 (12, 0) (by decide)) (by decide) rfl hi17 dX12_close_121 ?_
    obtain ⟨σ18, eσ18, hf⟩ := zbi hf
    refine z_callV (n := 2) (rest := []) (st1 := []) (c0 := 12) (i0 := 0) (hZ.2.1 (12, 0) (by decide)) (by rfl) S hG hS hZ (fun _ _ h => h) (c_X12_ranks l D aC zs A nl ad σ16 y1b99 (zA σ16 12 0 60 i17) σ18 eσ18) zw_1362 zw_1363 zw_1364 zw_5 zw_1365 (by decide +kernel) ⟨rfl, rfl⟩ ⟨(Nat.le_of_ble_eq_true rfl), (Nat.le_of_ble_eq_true rfl)⟩ hl.1 rfl (by rfl) (by rfl) (Nat.le_of_ble_eq_true rfl) dX12_close_122 ⟨Nat.zero_le _, Nat.zero_le _⟩ (fun H locs hz19 hG hS => ?_)
    refine lv_iload_n hx hb dX12_close_125 rfl (lv_at hl 1 rfl) ?_
    refine lv_iconst (v := 1) hx hb dX12_close_126 (by decide) ?_
    refine lv_icmp_ne (tgt := 135) hx hb dX12_close_127 (by decide) (fun c20 => ?_) (fun c20 => ?_)
    · have hf := zif_n c20 hf
      refine lv_aload_n hx hb dX12_close_135 rfl (lv_at hl 0 rfl) ?_
      refine z_get (c0 := 12) (i0 := 0) (k0 := 64) (T := TX12) (v := .int (zI σ18 12 0 64)) S hG (hZ.2.1 (12, 0) (by decide)) rfl inlX12 (by decide) rfl zw_1353 rfl dX12_close_136 ?_
      refine lv_aload_n hx hb dX12_close_139 rfl (lv_at hl 0 rfl) ?_
      refine lv_iload_n hx hb dX12_close_140 rfl (lv_at hl 2 rfl) ?_
      refine lv_iconst (v := 5) hx hb dX12_close_141 (by decide) ?_
      obtain ⟨r21, er21, hf⟩ := zbi hf
      refine z_callV (n := 2) (rest := [.int (zI σ18 12 0 64)]) (st1 := [.int r21, .int (zI σ18 12 0 64)]) (c0 := 12) (i0 := 0) (hZ.2.1 (12, 0) (by decide)) (by rfl) S hG hS hZ (fun _ _ h => h) (c_X12_tells l D aC zs A nl ad σ18 y2b99 5 r21 er21) zw_724 zw_725 zw_726 zw_5 zw_727 (by decide +kernel) ⟨rfl, rfl⟩ ⟨(Nat.le_of_ble_eq_true rfl), (Nat.le_of_ble_eq_true rfl)⟩ hl.1 rfl (by rfl) (by rfl) (Nat.le_of_ble_eq_true rfl) dX12_close_142 ⟨Nat.zero_le _, Nat.zero_le _⟩ (fun H locs hz22 hG hS => ?_)
      refine z_mmin (v := (zmin (zI σ18 12 0 64) r21)) S hl zw_736 zw_679 zw_91 zw_680 (Nat.le_of_ble_eq_true rfl) (Nat.le_of_ble_eq_true rfl) (Nat.le_of_ble_eq_true rfl) (Nat.zero_le _) (Nat.zero_le _) rfl dX12_close_145 ?_
      refine lv_istore_n (lv' := [(3, .int (zmin (zI σ18 12 0 64) r21)), (0, .ref (ad 12 0 0)), (1, .int y1b99), (2, .int y2b99)]) hx hb dX12_close_148 rfl hl (by decide) rfl (fun ls hl => ?_)
      refine lv_aload_n hx hb dX12_close_149 rfl (lv_at hl 1 rfl) ?_
      refine lv_iconst (v := 0) hx hb dX12_close_150 (by decide) ?_
      refine z_putI (c0 := 12) (i0 := 0) (k0 := 65) (T := TX12) S hG hS tyX12 tyX12_ok nmX12 (hZ.2.1 (12, 0) (by decide)) rfl inlX12 (by decide) rfl rfl zw_1295 (by decide +kernel) rfl dX12_close_151 (fun H locs hG hS => ?_)
      obtain ⟨σ23, eσ23, hf⟩ := zlt_s hf
      rw [← eσ23] at hG
      refine lv_iconst (v := 0) hx hb dX12_close_154 (by decide) ?_
      refine lv_istore (lv' := [(4, .int 0), (3, .int (zmin (zI σ18 12 0 64) r21)), (0, .ref (ad 12 0 0)), (1, .int y1b99), (2, .int y2b99)]) hx hb dX12_close_155 hl (by decide) rfl (fun ls hl => ?_)
      obtain ⟨t157, hw157, hfo157⟩ := zbi hf
      have KL157 : ∀ (n : Nat) (y4l157 : Int32) (σl157 : zM) (H : Heap) (locs : List Loc) (ls : Array Slot), zG D aC A nl ad σl157 s H → va_S A s.heap H locs → lv_has ls 5 [(0, .ref (ad 12 0 0)), (3, .int (zmin (zI σ18 12 0 64) r21)), (4, .int y4l157)] → zwh (fun (q : (Int32 × zM)) => f_X12_close_L157 (zmin (zI σ18 12 0 64) r21) q.1 q.2) n (y4l157, σl157) = some t157 → zWk p l e ({ frames := 6, cells := 0, slots := 0, locals := 147 } : Room) s m args below meth c A (some (.int r)) (fun t => zG D aC A nl ad σ' t t.heap ∧ True) H locs (F0 m 157 ls []) := by
        intro n
        induction n with
        | zero =>
          intro y4l157 σl157 H locs ls hG hS hl hw
          exact (zwh_0 hw).elim
        | succ n ih157 =>
          intro y4l157 σl157 H locs ls hG hS hl hw
          obtain ⟨rr157, hf, hk157⟩ := zwh_u hw
          have hf : f_X12_close_L157 (zmin (zI σ18 12 0 64) r21) y4l157 σl157 = some rr157 := hf
          unfold f_X12_close_L157 at hf
          have KJ218_157 : ∀ (y4b218 : Int32)  (σb218_157 : zM) (H : Heap) (locs : List Loc) (ls : Array Slot), zG D aC A nl ad σb218_157 s H → va_S A s.heap H locs → lv_has ls 5 [(0, .ref (ad 12 0 0)), (3, .int (zmin (zI σ18 12 0 64) r21)), (4, .int y4b218)] → (f_X12_close_B218_157 σb218_157 (zmin (zI σ18 12 0 64) r21) y4b218) = some rr157 → zWk p l e ({ frames := 6, cells := 0, slots := 0, locals := 147 } : Room) s m args below meth c A (some (.int r)) (fun t => zG D aC A nl ad σ' t t.heap ∧ True) H locs (F0 m 218 ls []) := by
            intro y4b218  σb218_157 H locs ls hG hS hl hf
            unfold f_X12_close_B218_157 at hf
            refine lv_iinc (v := (y4b218 + 1)) (lv' := [(4, .int (y4b218 + 1)), (0, .ref (ad 12 0 0)), (3, .int (zmin (zI σ18 12 0 64) r21))]) hx hb dX12_close_218 hl (k := 2) rfl rfl (by decide) rfl (fun ls hl => ?_)
            refine lv_goto (tgt := 157) hx hb dX12_close_221 (by decide) ?_
            cases hf
            exact ih157 (y4b218 + 1) σb218_157 H locs ls hG hS (lv_sub hl [1, 2, 0] rfl) hk157
          have KJ200_157 : ∀ (y4b200 : Int32)  (σb200_157 : zM) (H : Heap) (locs : List Loc) (ls : Array Slot), zG D aC A nl ad σb200_157 s H → va_S A s.heap H locs → lv_has ls 5 [(0, .ref (ad 12 0 0)), (3, .int (zmin (zI σ18 12 0 64) r21)), (4, .int y4b200)] → (f_X12_close_B200_157 σb200_157 (zmin (zI σ18 12 0 64) r21) y4b200) = some rr157 → zWk p l e ({ frames := 6, cells := 0, slots := 0, locals := 147 } : Room) s m args below meth c A (some (.int r)) (fun t => zG D aC A nl ad σ' t t.heap ∧ True) H locs (F0 m 200 ls []) := by
            intro y4b200  σb200_157 H locs ls hG hS hl hf
            unfold f_X12_close_B200_157 at hf
            refine lv_aload_n hx hb dX12_close_200 rfl (lv_at hl 0 rfl) ?_
            refine lv_dup hx hb dX12_close_201 rfl ?_
            refine z_get (c0 := 12) (i0 := 0) (k0 := 65) (T := TX12) (v := .int (zI σb200_157 12 0 65)) S hG (hZ.2.1 (12, 0) (by decide)) rfl inlX12 (by decide) rfl zw_1295 rfl dX12_close_202 ?_
            refine lv_iconst (v := 1) hx hb dX12_close_205 (by decide) ?_
            refine lv_aload_n hx hb dX12_close_206 rfl (lv_at hl 0 rfl) ?_
            refine z_get (c0 := 12) (i0 := 0) (k0 := 63) (T := TX12) (v := .ref (ad 12 0 64)) S hG (hZ.2.1 (12, 0) (by decide)) rfl inlX12 (by decide) rfl zw_265 rfl dX12_close_207 ?_
            refine lv_iload hx hb dX12_close_210 (lv_at hl 2 rfl) ?_
            obtain ⟨i37, hi37, hf⟩ := zbi hf
            refine z_iald (c0 := 12) (i0 := 0) (k0 := 63) S hG (hZ.2.1 (12, 0) (by decide)) (by decide) rfl hi37 dX12_close_212 ?_
            refine lv_ishl hx hb dX12_close_213 ?_
            refine lv_ior hx hb dX12_close_214 ?_
            refine z_putI (c0 := 12) (i0 := 0) (k0 := 65) (T := TX12) S hG hS tyX12 tyX12_ok nmX12 (hZ.2.1 (12, 0) (by decide)) rfl inlX12 (by decide) rfl rfl zw_1295 (by decide +kernel) rfl dX12_close_215 (fun H locs hG hS => ?_)
            obtain ⟨σ38, eσ38, hf⟩ := zlt_s hf
            rw [← eσ38] at hG
            exact KJ218_157 y4b200 σ38 H locs ls hG hS (lv_sub hl [0, 1, 2] rfl) hf
          refine lv_iload hx hb dX12_close_157 (lv_at hl 2 rfl) ?_
          refine lv_aload_n hx hb dX12_close_159 rfl (lv_at hl 0 rfl) ?_
          refine z_get (c0 := 12) (i0 := 0) (k0 := 64) (T := TX12) (v := .int (zI σl157 12 0 64)) S hG (hZ.2.1 (12, 0) (by decide)) rfl inlX12 (by decide) rfl zw_1353 rfl dX12_close_160 ?_
          refine lv_icmp_ge (tgt := 224) hx hb dX12_close_163 (by decide) (fun c35 => ?_) (fun c35 => ?_)
          · have hf := zif_p c35 hf
            cases hf
            have hk157 : (σl157 : zM) = t157 := hk157
            have hf := hfo157
            rw [← hk157] at hf
            have hf : (f_X12_close_B224 σl157) = some (r, σ') := hf
            exact KJ224 σl157 H locs ls hG hS (lv_sub hl [0] rfl) hf
          · have hf := zif_n c35 hf
            refine lv_iload hx hb dX12_close_166 (lv_at hl 2 rfl) ?_
            refine lv_iload_n hx hb dX12_close_168 rfl (lv_at hl 1 rfl) ?_
            refine lv_icmp_lt (tgt := 200) hx hb dX12_close_169 (by decide) (fun c36 => ?_) (fun c36 => ?_)
            · have hf := zif_p c36 hf
              exact KJ200_157 y4l157 σl157 H locs ls hG hS (lv_sub hl [0, 1, 2] rfl) hf
            · have hf := zif_n c36 hf
              refine lv_aload_n hx hb dX12_close_172 rfl (lv_at hl 0 rfl) ?_
              refine z_get (c0 := 12) (i0 := 0) (k0 := 62) (T := TX12) (v := .ref (ad 12 0 63)) S hG (hZ.2.1 (12, 0) (by decide)) rfl inlX12 (by decide) rfl zw_264 rfl dX12_close_173 ?_
              refine lv_aload_n hx hb dX12_close_176 rfl (lv_at hl 0 rfl) ?_
              refine z_get (c0 := 12) (i0 := 0) (k0 := 63) (T := TX12) (v := .ref (ad 12 0 64)) S hG (hZ.2.1 (12, 0) (by decide)) rfl inlX12 (by decide) rfl zw_265 rfl dX12_close_177 ?_
              refine lv_iload hx hb dX12_close_180 (lv_at hl 2 rfl) ?_
              obtain ⟨i39, hi39, hf⟩ := zbi hf
              refine z_iald (c0 := 12) (i0 := 0) (k0 := 63) S hG (hZ.2.1 (12, 0) (by decide)) (by decide) rfl hi39 dX12_close_182 ?_
              obtain ⟨i40, hi40, hf⟩ := zbi hf
              refine z_iald (c0 := 12) (i0 := 0) (k0 := 62) S hG (hZ.2.1 (12, 0) (by decide)) (by decide) rfl hi40 dX12_close_183 ?_
              refine lv_aload_n hx hb dX12_close_184 rfl (lv_at hl 0 rfl) ?_
              refine z_get (c0 := 12) (i0 := 0) (k0 := 62) (T := TX12) (v := .ref (ad 12 0 63)) S hG (hZ.2.1 (12, 0) (by decide)) rfl inlX12 (by decide) rfl zw_264 rfl dX12_close_185 ?_
              refine lv_aload_n hx hb dX12_close_188 rfl (lv_at hl 0 rfl) ?_
              refine z_get (c0 := 12) (i0 := 0) (k0 := 63) (T := TX12) (v := .ref (ad 12 0 64)) S hG (hZ.2.1 (12, 0) (by decide)) rfl inlX12 (by decide) rfl zw_265 rfl dX12_close_189 ?_
              refine lv_iload_n hx hb dX12_close_192 rfl (lv_at hl 1 rfl) ?_
              refine lv_iconst (v := 1) hx hb dX12_close_193 (by decide) ?_
              refine lv_isub hx hb dX12_close_194 ?_
              obtain ⟨i41, hi41, hf⟩ := zbi hf
              refine z_iald (c0 := 12) (i0 := 0) (k0 := 63) S hG (hZ.2.1 (12, 0) (by decide)) (by decide) rfl hi41 dX12_close_195 ?_
              obtain ⟨i42, hi42, hf⟩ := zbi hf
              refine z_iald (c0 := 12) (i0 := 0) (k0 := 62) S hG (hZ.2.1 (12, 0) (by decide)) (by decide) rfl hi42 dX12_close_196 ?_
              refine lv_icmp_ne (tgt := 218) hx hb dX12_close_197 (by decide) (fun c43 => ?_) (fun c43 => ?_)
              · have hf := zif_n c43 hf
                exact KJ218_157 y4l157 σl157 H locs ls hG hS (lv_sub hl [0, 1, 2] rfl) hf
              · have hf := zif_p c43 hf
                exact KJ200_157 y4l157 σl157 H locs ls hG hS (lv_sub hl [0, 1, 2] rfl) hf
      exact KL157 zFu 0 σ23 H locs ls hG hS (lv_sub hl [2, 1, 0] rfl) hw157
    · have hf := zif_p c20 hf
      refine lv_aload_n hx hb dX12_close_130 rfl (lv_at hl 0 rfl) ?_
      refine z_get (c0 := 12) (i0 := 0) (k0 := 64) (T := TX12) (v := .int (zI σ18 12 0 64)) S hG (hZ.2.1 (12, 0) (by decide)) rfl inlX12 (by decide) rfl zw_1353 rfl dX12_close_131 ?_
      obtain ⟨hq1, hq2⟩ := Prod.mk.inj (Option.some.inj hf)
      subst hq1
      subst hq2
      exact z_iret S hG hS hlocks trivial hr dX12_close_134
  have hK0 : ∀ (H : Heap) (locs : List Loc) (ls : Array Slot), zG D aC A nl ad σ s H → va_S A s.heap H locs → lv_has ls 5 [(0, .ref (ad 12 0 0))] → f_X12_close σ = some (r, σ') → zWk p l e ({ frames := 6, cells := 0, slots := 0, locals := 147 } : Room) s m args below meth c A (some (.int r)) (fun t => zG D aC A nl ad σ' t t.heap ∧ True) H locs (F0 m 0 ls []) := by
    intro H locs ls hG hS hl hf
    unfold f_X12_close at hf
    refine lv_aload_n hx hb dX12_close_0 rfl (lv_at hl 0 rfl) ?_
    refine z_get (c0 := 12) (i0 := 0) (k0 := 54) (T := TX12) (v := .int (zI σ 12 0 54)) S hG (hZ.2.1 (12, 0) (by decide)) rfl inlX12 (by decide) rfl zw_1272 rfl dX12_close_1 ?_
    refine lv_if_ne (tgt := 9) hx hb dX12_close_4 (by decide) (fun c1 => ?_) (fun c1 => ?_)
    · have hf := zif_n c1 hf
      refine lv_aload_n hx hb dX12_close_9 rfl (lv_at hl 0 rfl) ?_
      refine z_get (c0 := 12) (i0 := 0) (k0 := 49) (T := TX12) (v := .int (zI σ 12 0 49)) S hG (hZ.2.1 (12, 0) (by decide)) rfl inlX12 (by decide) rfl zw_1274 rfl dX12_close_10 ?_
      refine lv_iconst (v := 1) hx hb dX12_close_13 (by decide) ?_
      refine lv_isub hx hb dX12_close_14 ?_
      refine lv_istore_n (lv' := [(1, .int ((zI σ 12 0 49) - 1)), (0, .ref (ad 12 0 0))]) hx hb dX12_close_15 rfl hl (by decide) rfl (fun ls hl => ?_)
      refine lv_aload_n hx hb dX12_close_16 rfl (lv_at hl 1 rfl) ?_
      refine lv_aload_n hx hb dX12_close_17 rfl (lv_at hl 1 rfl) ?_
      refine z_get (c0 := 12) (i0 := 0) (k0 := 0) (T := TX12) (v := .int (zI σ 12 0 0)) S hG (hZ.2.1 (12, 0) (by decide)) rfl inlX12 (by decide) rfl zw_278 rfl dX12_close_18 ?_
      obtain ⟨r2, er2, hf⟩ := zbi hf
      refine z_callV (n := 1) (rest := []) (st1 := [.int r2]) (c0 := 12) (i0 := 0) (hZ.2.1 (12, 0) (by decide)) (by rfl) S hG hS hZ (fun _ _ h => h) (c_X12_bindsOn l D aC zs A nl ad σ (zI σ 12 0 0) r2 er2) zw_688 zw_689 zw_690 zw_5 zw_691 (by decide +kernel) ⟨rfl, rfl⟩ ⟨(Nat.le_of_ble_eq_true rfl), (Nat.le_of_ble_eq_true rfl)⟩ hl.1 rfl (by rfl) (by rfl) (Nat.le_of_ble_eq_true rfl) dX12_close_21 ⟨Nat.zero_le _, Nat.zero_le _⟩ (fun H locs hz3 hG hS => ?_)
      refine lv_istore_n (lv' := [(2, .int r2), (1, .int ((zI σ 12 0 49) - 1)), (0, .ref (ad 12 0 0))]) hx hb dX12_close_24 rfl hl (by decide) rfl (fun ls hl => ?_)
      refine lv_aload_n hx hb dX12_close_25 rfl (lv_at hl 2 rfl) ?_
      refine z_get (c0 := 12) (i0 := 0) (k0 := 60) (T := TX12) (v := .ref (ad 12 0 61)) S hG (hZ.2.1 (12, 0) (by decide)) rfl inlX12 (by decide) rfl zw_262 rfl dX12_close_26 ?_
      refine lv_iload_n hx hb dX12_close_29 rfl (lv_at hl 1 rfl) ?_
      refine lv_aload_n hx hb dX12_close_30 rfl (lv_at hl 2 rfl) ?_
      refine lv_iload_n hx hb dX12_close_31 rfl (lv_at hl 0 rfl) ?_
      refine lv_bipush (v := 6) hx hb dX12_close_32 (by decide) ?_
      obtain ⟨r4, er4, hf⟩ := zbi hf
      refine z_callV (n := 2) (rest := [.int ((zI σ 12 0 49) - 1), .ref (ad 12 0 61)]) (st1 := [.int r4, .int ((zI σ 12 0 49) - 1), .ref (ad 12 0 61)]) (c0 := 12) (i0 := 0) (hZ.2.1 (12, 0) (by decide)) (by rfl) S hG hS hZ (fun _ _ h => h) (c_X12_tells l D aC zs A nl ad σ r2 6 r4 er4) zw_724 zw_725 zw_726 zw_5 zw_727 (by decide +kernel) ⟨rfl, rfl⟩ ⟨(Nat.le_of_ble_eq_true rfl), (Nat.le_of_ble_eq_true rfl)⟩ hl.1 rfl (by rfl) (by rfl) (Nat.le_of_ble_eq_true rfl) dX12_close_34 ⟨Nat.zero_le _, Nat.zero_le _⟩ (fun H locs hz5 hG hS => ?_)
      obtain ⟨i6, hi6, hf⟩ := zbi hf
      refine z_iast (c0 := 12) (i0 := 0) (k0 := 60) S hG hS (hZ.2.1 (12, 0) (by decide)) (by decide) rfl hi6 dX12_close_37 (fun H locs hG hS => ?_)
      obtain ⟨σ7, eσ7, hf⟩ := zlt_s hf
      rw [← eσ7] at hG
      refine lv_aload_n hx hb dX12_close_38 rfl (lv_at hl 2 rfl) ?_
      refine z_get (c0 := 12) (i0 := 0) (k0 := 61) (T := TX12) (v := .ref (ad 12 0 62)) S hG (hZ.2.1 (12, 0) (by decide)) rfl inlX12 (by decide) rfl zw_263 rfl dX12_close_39 ?_
      refine lv_iload_n hx hb dX12_close_42 rfl (lv_at hl 1 rfl) ?_
      refine lv_aload_n hx hb dX12_close_43 rfl (lv_at hl 2 rfl) ?_
      refine lv_iload_n hx hb dX12_close_44 rfl (lv_at hl 0 rfl) ?_
      refine lv_bipush (v := 7) hx hb dX12_close_45 (by decide) ?_
      obtain ⟨r8, er8, hf⟩ := zbi hf
      refine z_callV (n := 2) (rest := [.int ((zI σ 12 0 49) - 1), .ref (ad 12 0 62)]) (st1 := [.int r8, .int ((zI σ 12 0 49) - 1), .ref (ad 12 0 62)]) (c0 := 12) (i0 := 0) (hZ.2.1 (12, 0) (by decide)) (by rfl) S hG hS hZ (fun _ _ h => h) (c_X12_tells l D aC zs A nl ad σ7 r2 7 r8 er8) zw_724 zw_725 zw_726 zw_5 zw_727 (by decide +kernel) ⟨rfl, rfl⟩ ⟨(Nat.le_of_ble_eq_true rfl), (Nat.le_of_ble_eq_true rfl)⟩ hl.1 rfl (by rfl) (by rfl) (Nat.le_of_ble_eq_true rfl) dX12_close_47 ⟨Nat.zero_le _, Nat.zero_le _⟩ (fun H locs hz9 hG hS => ?_)
      obtain ⟨i10, hi10, hf⟩ := zbi hf
      refine z_iast (c0 := 12) (i0 := 0) (k0 := 61) S hG hS (hZ.2.1 (12, 0) (by decide)) (by decide) rfl hi10 dX12_close_50 (fun H locs hG hS => ?_)
      obtain ⟨σ11, eσ11, hf⟩ := zlt_s hf
      rw [← eσ11] at hG
      refine lv_aload_n hx hb dX12_close_51 rfl (lv_at hl 2 rfl) ?_
      refine z_get (c0 := 12) (i0 := 0) (k0 := 59) (T := TX12) (v := .ref (ad 12 0 60)) S hG (hZ.2.1 (12, 0) (by decide)) rfl inlX12 (by decide) rfl zw_261 rfl dX12_close_52 ?_
      refine lv_iload_n hx hb dX12_close_55 rfl (lv_at hl 1 rfl) ?_
      refine lv_iconst (v := 0) hx hb dX12_close_56 (by decide) ?_
      obtain ⟨i12, hi12, hf⟩ := zbi hf
      refine z_iast (c0 := 12) (i0 := 0) (k0 := 59) S hG hS (hZ.2.1 (12, 0) (by decide)) (by decide) rfl hi12 dX12_close_57 (fun H locs hG hS => ?_)
      obtain ⟨σ13, eσ13, hf⟩ := zlt_s hf
      rw [← eσ13] at hG
      refine lv_iconst (v := 0) hx hb dX12_close_58 (by decide) ?_
      refine lv_istore_n (lv' := [(3, .int 0), (2, .int r2), (1, .int ((zI σ 12 0 49) - 1)), (0, .ref (ad 12 0 0))]) hx hb dX12_close_59 rfl hl (by decide) rfl (fun ls hl => ?_)
      obtain ⟨t60, hw60, hfo60⟩ := zbi hf
      have KL60 : ∀ (n : Nat) (y3l60 : Int32) (σl60 : zM) (H : Heap) (locs : List Loc) (ls : Array Slot), zG D aC A nl ad σl60 s H → va_S A s.heap H locs → lv_has ls 5 [(0, .ref (ad 12 0 0)), (1, .int ((zI σ 12 0 49) - 1)), (2, .int r2), (3, .int y3l60)] → zwh (fun (q : (Int32 × zM)) => f_X12_close_L60 ((zI σ 12 0 49) - 1) r2 q.1 q.2) n (y3l60, σl60) = some t60 → zWk p l e ({ frames := 6, cells := 0, slots := 0, locals := 147 } : Room) s m args below meth c A (some (.int r)) (fun t => zG D aC A nl ad σ' t t.heap ∧ True) H locs (F0 m 60 ls []) := by
        intro n
        induction n with
        | zero =>
          intro y3l60 σl60 H locs ls hG hS hl hw
          exact (zwh_0 hw).elim
        | succ n ih60 =>
          intro y3l60 σl60 H locs ls hG hS hl hw
          obtain ⟨rr60, hf, hk60⟩ := zwh_u hw
          have hf : f_X12_close_L60 ((zI σ 12 0 49) - 1) r2 y3l60 σl60 = some rr60 := hf
          unfold f_X12_close_L60 at hf
          refine lv_iload_n hx hb dX12_close_60 rfl (lv_at hl 3 rfl) ?_
          refine lv_aload_n hx hb dX12_close_61 rfl (lv_at hl 0 rfl) ?_
          refine z_get (c0 := 12) (i0 := 0) (k0 := 48) (T := TX12) (v := .int (zI σl60 12 0 48)) S hG (hZ.2.1 (12, 0) (by decide)) rfl inlX12 (by decide) rfl zw_1202 rfl dX12_close_62 ?_
          refine lv_icmp_ge (tgt := 99) hx hb dX12_close_65 (by decide) (fun c54 => ?_) (fun c54 => ?_)
          · have hf := zif_p c54 hf
            cases hf
            have hk60 : (σl60 : zM) = t60 := hk60
            have hf := hfo60
            rw [← hk60] at hf
            have hf : (f_X12_close_B99 σl60 ((zI σ 12 0 49) - 1) r2) = some (r, σ') := hf
            exact KJ99 ((zI σ 12 0 49) - 1) r2 σl60 H locs ls hG hS (lv_sub hl [0, 1, 2] rfl) hf
          · have hf := zif_n c54 hf
            refine lv_aload_n hx hb dX12_close_68 rfl (lv_at hl 0 rfl) ?_
            refine z_get (c0 := 12) (i0 := 0) (k0 := 59) (T := TX12) (v := .ref (ad 12 0 60)) S hG (hZ.2.1 (12, 0) (by decide)) rfl inlX12 (by decide) rfl zw_261 rfl dX12_close_69 ?_
            refine lv_iload_n hx hb dX12_close_72 rfl (lv_at hl 1 rfl) ?_
            refine lv_dup2_11 hx hb dX12_close_73 rfl rfl ?_
            obtain ⟨i55, hi55, hf⟩ := zbi hf
            refine z_iald (c0 := 12) (i0 := 0) (k0 := 59) S hG (hZ.2.1 (12, 0) (by decide)) (by decide) rfl hi55 dX12_close_74 ?_
            refine lv_aload_n hx hb dX12_close_75 rfl (lv_at hl 0 rfl) ?_
            refine lv_iload_n hx hb dX12_close_76 rfl (lv_at hl 1 rfl) ?_
            refine lv_iload_n hx hb dX12_close_77 rfl (lv_at hl 3 rfl) ?_
            obtain ⟨r56, er56, hf⟩ := zbi hf
            refine z_callV (n := 2) (rest := [.int (zA σl60 12 0 59 i55), .int ((zI σ 12 0 49) - 1), .ref (ad 12 0 60)]) (st1 := [.int r56, .int (zA σl60 12 0 59 i55), .int ((zI σ 12 0 49) - 1), .ref (ad 12 0 60)]) (c0 := 12) (i0 := 0) (hZ.2.1 (12, 0) (by decide)) (by rfl) S hG hS hZ (fun _ _ h => h) (c_X12_countsNow l D aC zs A nl ad σl60 ((zI σ 12 0 49) - 1) y3l60 r56 er56) zw_1354 zw_1355 zw_1356 zw_5 zw_1357 (by decide +kernel) ⟨rfl, rfl⟩ ⟨(Nat.le_of_ble_eq_true rfl), (Nat.le_of_ble_eq_true rfl)⟩ hl.1 rfl (by rfl) (by rfl) (Nat.le_of_ble_eq_true rfl) dX12_close_78 ⟨Nat.zero_le _, Nat.zero_le _⟩ (fun H locs hz57 hG hS => ?_)
            have Kv60 : ∀ (v60 : Int32) (ls : Array Slot), lv_has ls 5 [(0, .ref (ad 12 0 0)), (1, .int ((zI σ 12 0 49) - 1)), (2, .int r2), (3, .int y3l60)] → ((zix ((zI σ 12 0 49) - 1) 2).bind fun i63 => zlt (zsA σl60 12 0 59 i63 ((zA σl60 12 0 59 i55) ||| v60)) fun σ64 => some (.inl ((y3l60 + 1), σ64))) = some rr60 → zWk p l e ({ frames := 6, cells := 0, slots := 0, locals := 147 } : Room) s m args below meth c A (some (.int r)) (fun t => zG D aC A nl ad σ' t t.heap ∧ True) H locs (F0 m 91 ls [.int v60, .int (zA σl60 12 0 59 i55), .int ((zI σ 12 0 49) - 1), .ref (ad 12 0 60)]) := by
              intro v60 ls hl hf
              refine lv_ior hx hb dX12_close_91 ?_
              obtain ⟨i63, hi63, hf⟩ := zbi hf
              refine z_iast (c0 := 12) (i0 := 0) (k0 := 59) S hG hS (hZ.2.1 (12, 0) (by decide)) (by decide) rfl hi63 dX12_close_92 (fun H locs hG hS => ?_)
              obtain ⟨σ64, eσ64, hf⟩ := zlt_s hf
              rw [← eσ64] at hG
              refine lv_iinc (v := (y3l60 + 1)) (lv' := [(3, .int (y3l60 + 1)), (0, .ref (ad 12 0 0)), (1, .int ((zI σ 12 0 49) - 1)), (2, .int r2)]) hx hb dX12_close_93 hl (k := 3) rfl rfl (by decide) rfl (fun ls hl => ?_)
              refine lv_goto (tgt := 60) hx hb dX12_close_96 (by decide) ?_
              cases hf
              exact ih60 (y3l60 + 1) σ64 H locs ls hG hS (lv_sub hl [1, 2, 3, 0] rfl) hk60
            refine lv_if_eq (tgt := 90) hx hb dX12_close_81 (by decide) (fun c59 => ?_) (fun c59 => ?_)
            · rw [if_pos c59] at hf
              refine lv_iconst (v := 0) hx hb dX12_close_90 (by decide) ?_
              exact Kv60 _ ls hl hf
            · rw [if_neg c59] at hf
              refine lv_iconst (v := 1) hx hb dX12_close_84 (by decide) ?_
              refine lv_iload_n hx hb dX12_close_85 rfl (lv_at hl 3 rfl) ?_
              refine lv_ishl hx hb dX12_close_86 ?_
              refine lv_goto (tgt := 91) hx hb dX12_close_87 (by decide) ?_
              exact Kv60 _ ls hl hf
      exact KL60 zFu 0 σ13 H locs ls hG hS (lv_sub hl [3, 2, 1, 0] rfl) hw60
    · have hf := zif_p c1 hf
      refine lv_iconst (v := (-1)) hx hb dX12_close_7 (by decide) ?_
      obtain ⟨hq1, hq2⟩ := Prod.mk.inj (Option.some.inj hf)
      subst hq1
      subst hq2
      exact z_iret S hG hS hlocks trivial hr dX12_close_8
  exact hK0 _ _ ls hG hS hl hf
set_option maxRecDepth 100000 in
set_option maxHeartbeats 4000000 in
theorem c_X12_points (l : Launch) (D : va_G) (aC : Nat → ClassId) (zs : Nat × Nat) (A : Nat → Prop) (nl : zNL) (ad : Nat → Nat → Nat → Nat) (σ : zM) (x1 : Int32) (x2 : Int32) (x3 : Int32) (r : Int32)  (hf : f_X12_points σ x1 x2 x3 = some r) : Met l yX12_points (Cond.code yX12_points cX12_points 4 (some .int) :: wsL_law) ({ frames := 5, cells := 0, slots := 0, locals := 123 } : Room) (zP D aC zs zfM A nl ad σ [.ref (ad 12 0 0), .int x1, .int x2, .int x3]) (zQ (some (.int r)) (fun t => zG D aC A nl ad σ t t.heap ∧ True) A) 0 0 A := by
  refine Met.ofW (cc := cX12_points) (maxL := 4) (ret := (some .int)) (by decide) rfl ?_
  intro p e s m args below meth c s₁ B hml hv
  obtain ⟨rfl, hG, hZ⟩ := hv
  have hx := B.exec
  have hb := B.bytes
  have hr := B.returns
  have hts : ∀ w ∈ wsL_law, w.before ([.ref (ad 12 0 0), .int x1, .int x2, .int x3] : List Value).toArray s = true := fun w h => (atoms_spec B.pre) w (List.mem_cons_of_mem _ h)
  have hown : s.vm.findClass RX12 = some m.cls := findClass_of_methodNamed B.named
  have hlocks := B.notSynchronized
  have S : zS p m c cX12_points 4 s ([.ref (ad 12 0 0), .int x1, .int x2, .int x3] : List Value).toArray RX12 := ⟨hx, hb, hml, hown, hts⟩
  have hS : va_S A s.heap s.heap [] := va_S.rf
  have hl := lv_entry ([.ref (ad 12 0 0), .int x1, .int x2, .int x3]) (n := 4) (Nat.le_of_ble_eq_true rfl)
  rw [lg_entry_eq]
  generalize (lg_sl ([.ref (ad 12 0 0), .int x1, .int x2, .int x3]) ++ List.replicate (4 - (lg_sl ([.ref (ad 12 0 0), .int x1, .int x2, .int x3])).length) Slot.unset).toArray = ls at hl ⊢
  have hl : lv_has ls 4 [(0, .ref (ad 12 0 0)), (1, .int x1), (2, .int x2), (3, .int x3)] := hl
  generalize hargs : ([.ref (ad 12 0 0), .int x1, .int x2, .int x3] : List Value).toArray = args at S hts ⊢
  clear hargs
  have hK0 : ∀ (H : Heap) (locs : List Loc) (ls : Array Slot), zG D aC A nl ad σ s H → va_S A s.heap H locs → lv_has ls 4 [(0, .ref (ad 12 0 0)), (1, .int x1), (2, .int x2), (3, .int x3)] → f_X12_points σ x1 x2 x3 = some r → zWk p l e ({ frames := 5, cells := 0, slots := 0, locals := 123 } : Room) s m args below meth c A (some (.int r)) (fun t => zG D aC A nl ad σ t t.heap ∧ True) H locs (F0 m 0 ls []) := by
    intro H locs ls hG hS hl hf
    unfold f_X12_points at hf
    refine lv_iload_n hx hb dX12_points_0 rfl (lv_at hl 1 rfl) ?_
    refine lv_iconst (v := 1) hx hb dX12_points_1 (by decide) ?_
    refine lv_aload_n hx hb dX12_points_2 rfl (lv_at hl 0 rfl) ?_
    refine z_get (c0 := 12) (i0 := 0) (k0 := 49) (T := TX12) (v := .int (zI σ 12 0 49)) S hG (hZ.2.1 (12, 0) (by decide)) rfl inlX12 (by decide) rfl zw_1274 rfl dX12_points_3 ?_
    refine z_callS (n := 3) (rest := []) (st1 := [.int (f_X12_isIn x1 1 (zI σ 12 0 49))]) S hG hS hZ (fun _ _ h => h) (c_X12_isIn l D aC zs A nl ad σ x1 1 (zI σ 12 0 49) (f_X12_isIn x1 1 (zI σ 12 0 49)) rfl) zw_514 zw_515 zw_5 zw_516 (by decide +kernel) ⟨rfl, rfl⟩ ⟨(Nat.le_of_ble_eq_true rfl), (Nat.le_of_ble_eq_true rfl)⟩ hl.1 rfl (by rfl) (by rfl) (Nat.le_of_ble_eq_true rfl) dX12_points_6 ⟨Nat.zero_le _, Nat.zero_le _⟩ (fun H locs hz1 hG hS => ?_)
    refine lv_if_eq (tgt := 52) hx hb dX12_points_9 (by decide) (fun c2 => ?_) (fun c2 => ?_)
    · have hf := zif_p c2 hf
      refine lv_iconst (v := (-1)) hx hb dX12_points_52 (by decide) ?_
      have hq := (Option.some.inj hf)
      subst hq
      exact z_iret S hG hS hlocks trivial hr dX12_points_53
    · have hf := zif_n c2 hf
      refine lv_iload_n hx hb dX12_points_12 rfl (lv_at hl 2 rfl) ?_
      refine lv_iconst (v := 0) hx hb dX12_points_13 (by decide) ?_
      refine lv_iconst (v := 2) hx hb dX12_points_14 (by decide) ?_
      refine z_callS (n := 3) (rest := []) (st1 := [.int (f_X12_isIn x2 0 2)]) S hG hS hZ (fun _ _ h => h) (c_X12_isIn l D aC zs A nl ad σ x2 0 2 (f_X12_isIn x2 0 2) rfl) zw_514 zw_515 zw_5 zw_516 (by decide +kernel) ⟨rfl, rfl⟩ ⟨(Nat.le_of_ble_eq_true rfl), (Nat.le_of_ble_eq_true rfl)⟩ hl.1 rfl (by rfl) (by rfl) (Nat.le_of_ble_eq_true rfl) dX12_points_15 ⟨Nat.zero_le _, Nat.zero_le _⟩ (fun H locs hz3 hG hS => ?_)
      refine lv_if_eq (tgt := 52) hx hb dX12_points_18 (by decide) (fun c4 => ?_) (fun c4 => ?_)
      · have hf := zif_p c4 hf
        refine lv_iconst (v := (-1)) hx hb dX12_points_52 (by decide) ?_
        have hq := (Option.some.inj hf)
        subst hq
        exact z_iret S hG hS hlocks trivial hr dX12_points_53
      · have hf := zif_n c4 hf
        refine lv_aload_n hx hb dX12_points_21 rfl (lv_at hl 0 rfl) ?_
        refine lv_iload_n hx hb dX12_points_22 rfl (lv_at hl 3 rfl) ?_
        refine z_callV (n := 1) (rest := []) (st1 := [.int (f_X12_isScheme σ x3)]) (c0 := 12) (i0 := 0) (hZ.2.1 (12, 0) (by decide)) (by rfl) S hG hS hZ (fun _ _ h => h) (c_X12_isScheme l D aC zs A nl ad σ x3 (f_X12_isScheme σ x3) rfl) zw_837 zw_838 zw_839 zw_5 zw_840 (by decide +kernel) ⟨rfl, rfl⟩ ⟨(Nat.le_of_ble_eq_true rfl), (Nat.le_of_ble_eq_true rfl)⟩ hl.1 rfl (by rfl) (by rfl) (Nat.le_of_ble_eq_true rfl) dX12_points_23 ⟨Nat.zero_le _, Nat.zero_le _⟩ (fun H locs hz5 hG hS => ?_)
        refine lv_if_eq (tgt := 52) hx hb dX12_points_26 (by decide) (fun c6 => ?_) (fun c6 => ?_)
        · have hf := zif_p c6 hf
          refine lv_iconst (v := (-1)) hx hb dX12_points_52 (by decide) ?_
          have hq := (Option.some.inj hf)
          subst hq
          exact z_iret S hG hS hlocks trivial hr dX12_points_53
        · have hf := zif_n c6 hf
          refine lv_aload_n hx hb dX12_points_29 rfl (lv_at hl 0 rfl) ?_
          refine lv_iload_n hx hb dX12_points_30 rfl (lv_at hl 1 rfl) ?_
          refine lv_iconst (v := 1) hx hb dX12_points_31 (by decide) ?_
          refine lv_isub hx hb dX12_points_32 ?_
          refine lv_iload_n hx hb dX12_points_33 rfl (lv_at hl 3 rfl) ?_
          obtain ⟨r7, er7, hf⟩ := zbi hf
          refine z_callV (n := 2) (rest := []) (st1 := [.int r7]) (c0 := 12) (i0 := 0) (hZ.2.1 (12, 0) (by decide)) (by rfl) S hG hS hZ (fun _ _ h => h) (c_X12_isInRound l D aC zs A nl ad σ (x1 - 1) x3 r7 er7) zw_1358 zw_1359 zw_1360 zw_5 zw_1361 (by decide +kernel) ⟨rfl, rfl⟩ ⟨(Nat.le_of_ble_eq_true rfl), (Nat.le_of_ble_eq_true rfl)⟩ hl.1 rfl (by rfl) (by rfl) (Nat.le_of_ble_eq_true rfl) dX12_points_34 ⟨Nat.zero_le _, Nat.zero_le _⟩ (fun H locs hz8 hG hS => ?_)
          refine lv_if_eq (tgt := 52) hx hb dX12_points_37 (by decide) (fun c9 => ?_) (fun c9 => ?_)
          · have hf := zif_p c9 hf
            refine lv_iconst (v := (-1)) hx hb dX12_points_52 (by decide) ?_
            have hq := (Option.some.inj hf)
            subst hq
            exact z_iret S hG hS hlocks trivial hr dX12_points_53
          · have hf := zif_n c9 hf
            refine lv_aload_n hx hb dX12_points_40 rfl (lv_at hl 0 rfl) ?_
            refine lv_iload_n hx hb dX12_points_41 rfl (lv_at hl 1 rfl) ?_
            refine lv_iconst (v := 1) hx hb dX12_points_42 (by decide) ?_
            refine lv_isub hx hb dX12_points_43 ?_
            refine lv_iload_n hx hb dX12_points_44 rfl (lv_at hl 2 rfl) ?_
            refine lv_iload_n hx hb dX12_points_45 rfl (lv_at hl 3 rfl) ?_
            obtain ⟨r10, er10, hf⟩ := zbi hf
            refine z_callV (n := 3) (rest := []) (st1 := [.int r10]) (c0 := 12) (i0 := 0) (hZ.2.1 (12, 0) (by decide)) (by rfl) S hG hS hZ (fun _ _ h => h) (c_X12_pointsOf l D aC zs A nl ad σ (x1 - 1) x2 x3 r10 er10) zw_1366 zw_1367 zw_1368 zw_5 zw_1369 (by decide +kernel) ⟨rfl, rfl⟩ ⟨(Nat.le_of_ble_eq_true rfl), (Nat.le_of_ble_eq_true rfl)⟩ hl.1 rfl (by rfl) (by rfl) (Nat.le_of_ble_eq_true rfl) dX12_points_46 ⟨Nat.zero_le _, Nat.zero_le _⟩ (fun H locs hz11 hG hS => ?_)
            refine lv_goto (tgt := 53) hx hb dX12_points_49 (by decide) ?_
            have hq := (Option.some.inj hf)
            subst hq
            exact z_iret S hG hS hlocks trivial hr dX12_points_53
  exact hK0 _ _ ls hG hS hl hf
set_option maxRecDepth 100000 in
set_option maxHeartbeats 4000000 in
theorem c_X12_voice (l : Launch) (D : va_G) (aC : Nat → ClassId) (zs : Nat × Nat) (A : Nat → Prop) (nl : zNL) (ad : Nat → Nat → Nat → Nat) (σ : zM) (x1 : Int32) (x2 : Int32) (r : Int32)  (hf : f_X12_voice σ x1 x2 = some r) : Met l yX12_voice (Cond.code yX12_voice cX12_voice 3 (some .int) :: wsL_law) ({ frames := 3, cells := 0, slots := 0, locals := 70 } : Room) (zP D aC zs zfM A nl ad σ [.ref (ad 12 0 0), .int x1, .int x2]) (zQ (some (.int r)) (fun t => zG D aC A nl ad σ t t.heap ∧ True) A) 0 0 A := by
  refine Met.ofW (cc := cX12_voice) (maxL := 3) (ret := (some .int)) (by decide) rfl ?_
  intro p e s m args below meth c s₁ B hml hv
  obtain ⟨rfl, hG, hZ⟩ := hv
  have hx := B.exec
  have hb := B.bytes
  have hr := B.returns
  have hts : ∀ w ∈ wsL_law, w.before ([.ref (ad 12 0 0), .int x1, .int x2] : List Value).toArray s = true := fun w h => (atoms_spec B.pre) w (List.mem_cons_of_mem _ h)
  have hown : s.vm.findClass RX12 = some m.cls := findClass_of_methodNamed B.named
  have hlocks := B.notSynchronized
  have S : zS p m c cX12_voice 3 s ([.ref (ad 12 0 0), .int x1, .int x2] : List Value).toArray RX12 := ⟨hx, hb, hml, hown, hts⟩
  have hS : va_S A s.heap s.heap [] := va_S.rf
  have hl := lv_entry ([.ref (ad 12 0 0), .int x1, .int x2]) (n := 3) (Nat.le_of_ble_eq_true rfl)
  rw [lg_entry_eq]
  generalize (lg_sl ([.ref (ad 12 0 0), .int x1, .int x2]) ++ List.replicate (3 - (lg_sl ([.ref (ad 12 0 0), .int x1, .int x2])).length) Slot.unset).toArray = ls at hl ⊢
  have hl : lv_has ls 3 [(0, .ref (ad 12 0 0)), (1, .int x1), (2, .int x2)] := hl
  generalize hargs : ([.ref (ad 12 0 0), .int x1, .int x2] : List Value).toArray = args at S hts ⊢
  clear hargs
  have hK0 : ∀ (H : Heap) (locs : List Loc) (ls : Array Slot), zG D aC A nl ad σ s H → va_S A s.heap H locs → lv_has ls 3 [(0, .ref (ad 12 0 0)), (1, .int x1), (2, .int x2)] → f_X12_voice σ x1 x2 = some r → zWk p l e ({ frames := 3, cells := 0, slots := 0, locals := 70 } : Room) s m args below meth c A (some (.int r)) (fun t => zG D aC A nl ad σ t t.heap ∧ True) H locs (F0 m 0 ls []) := by
    intro H locs ls hG hS hl hf
    unfold f_X12_voice at hf
    refine lv_iload_n hx hb dX12_voice_0 rfl (lv_at hl 1 rfl) ?_
    refine lv_iconst (v := 1) hx hb dX12_voice_1 (by decide) ?_
    refine lv_aload_n hx hb dX12_voice_2 rfl (lv_at hl 0 rfl) ?_
    refine z_get (c0 := 12) (i0 := 0) (k0 := 49) (T := TX12) (v := .int (zI σ 12 0 49)) S hG (hZ.2.1 (12, 0) (by decide)) rfl inlX12 (by decide) rfl zw_1274 rfl dX12_voice_3 ?_
    refine z_callS (n := 3) (rest := []) (st1 := [.int (f_X12_isIn x1 1 (zI σ 12 0 49))]) S hG hS hZ (fun _ _ h => h) (c_X12_isIn l D aC zs A nl ad σ x1 1 (zI σ 12 0 49) (f_X12_isIn x1 1 (zI σ 12 0 49)) rfl) zw_514 zw_515 zw_5 zw_516 (by decide +kernel) ⟨rfl, rfl⟩ ⟨(Nat.le_of_ble_eq_true rfl), (Nat.le_of_ble_eq_true rfl)⟩ hl.1 rfl (by rfl) (by rfl) (Nat.le_of_ble_eq_true rfl) dX12_voice_6 ⟨Nat.zero_le _, Nat.zero_le _⟩ (fun H locs hz1 hG hS => ?_)
    refine lv_if_eq (tgt := 34) hx hb dX12_voice_9 (by decide) (fun c2 => ?_) (fun c2 => ?_)
    · have hf := zif_p c2 hf
      refine lv_iconst (v := (-1)) hx hb dX12_voice_34 (by decide) ?_
      have hq := (Option.some.inj hf)
      subst hq
      exact z_iret S hG hS hlocks trivial hr dX12_voice_35
    · have hf := zif_n c2 hf
      refine lv_aload_n hx hb dX12_voice_12 rfl (lv_at hl 0 rfl) ?_
      refine lv_iload_n hx hb dX12_voice_13 rfl (lv_at hl 2 rfl) ?_
      refine z_callV (n := 1) (rest := []) (st1 := [.int (f_X12_isJuror σ x2)]) (c0 := 12) (i0 := 0) (hZ.2.1 (12, 0) (by decide)) (by rfl) S hG hS hZ (fun _ _ h => h) (c_X12_isJuror l D aC zs A nl ad σ x2 (f_X12_isJuror σ x2) rfl) zw_1220 zw_1221 zw_1222 zw_5 zw_1223 (by decide +kernel) ⟨rfl, rfl⟩ ⟨(Nat.le_of_ble_eq_true rfl), (Nat.le_of_ble_eq_true rfl)⟩ hl.1 rfl (by rfl) (by rfl) (Nat.le_of_ble_eq_true rfl) dX12_voice_14 ⟨Nat.zero_le _, Nat.zero_le _⟩ (fun H locs hz3 hG hS => ?_)
      refine lv_if_eq (tgt := 34) hx hb dX12_voice_17 (by decide) (fun c4 => ?_) (fun c4 => ?_)
      · have hf := zif_p c4 hf
        refine lv_iconst (v := (-1)) hx hb dX12_voice_34 (by decide) ?_
        have hq := (Option.some.inj hf)
        subst hq
        exact z_iret S hG hS hlocks trivial hr dX12_voice_35
      · have hf := zif_n c4 hf
        refine lv_aload_n hx hb dX12_voice_20 rfl (lv_at hl 0 rfl) ?_
        refine lv_iload_n hx hb dX12_voice_21 rfl (lv_at hl 1 rfl) ?_
        refine lv_iconst (v := 1) hx hb dX12_voice_22 (by decide) ?_
        refine lv_isub hx hb dX12_voice_23 ?_
        refine lv_iload_n hx hb dX12_voice_24 rfl (lv_at hl 2 rfl) ?_
        obtain ⟨r5, er5, hf⟩ := zbi hf
        refine z_callV (n := 2) (rest := []) (st1 := [.int r5]) (c0 := 12) (i0 := 0) (hZ.2.1 (12, 0) (by decide)) (by rfl) S hG hS hZ (fun _ _ h => h) (c_X12_counts l D aC zs A nl ad σ (x1 - 1) x2 r5 er5) zw_1370 zw_1371 zw_1372 zw_5 zw_1373 (by decide +kernel) ⟨rfl, rfl⟩ ⟨(Nat.le_of_ble_eq_true rfl), (Nat.le_of_ble_eq_true rfl)⟩ hl.1 rfl (by rfl) (by rfl) (Nat.le_of_ble_eq_true rfl) dX12_voice_25 ⟨Nat.zero_le _, Nat.zero_le _⟩ (fun H locs hz6 hG hS => ?_)
        refine z_callS (n := 1) (rest := []) (st1 := [.int (f_X12_one r5)]) S hG hS hZ (fun _ _ h => h) (c_X12_one l D aC zs A nl ad σ r5 (f_X12_one r5) rfl) zw_903 zw_904 zw_5 zw_905 (by decide +kernel) ⟨rfl, rfl⟩ ⟨(Nat.le_of_ble_eq_true rfl), (Nat.le_of_ble_eq_true rfl)⟩ hl.1 rfl (by rfl) (by rfl) (Nat.le_of_ble_eq_true rfl) dX12_voice_28 ⟨Nat.zero_le _, Nat.zero_le _⟩ (fun H locs hz7 hG hS => ?_)
        refine lv_goto (tgt := 35) hx hb dX12_voice_31 (by decide) ?_
        have hq := (Option.some.inj hf)
        subst hq
        exact z_iret S hG hS hlocks trivial hr dX12_voice_35
  exact hK0 _ _ ls hG hS hl hf
set_option maxRecDepth 100000 in
set_option maxHeartbeats 4000000 in
theorem c_X12_order (l : Launch) (D : va_G) (aC : Nat → ClassId) (zs : Nat × Nat) (A : Nat → Prop) (nl : zNL) (ad : Nat → Nat → Nat → Nat) (σ : zM) (x1 : Int32) (x2 : Int32) (x3 : Int32) (r : Int32) (σ' : zM)  (hf : f_X12_order σ x1 x2 x3 = some (r, σ')) : Met l yX12_order (Cond.code yX12_order cX12_order 4 (some .int) :: wsL_law) ({ frames := 6, cells := 0, slots := 0, locals := 147 } : Room) (zP D aC zs zfM A nl ad σ [.ref (ad 12 0 0), .int x1, .int x2, .int x3]) (zQ (some (.int r)) (fun t => zG D aC A nl ad σ' t t.heap ∧ True) A) 0 0 A := by
  refine Met.ofW (cc := cX12_order) (maxL := 4) (ret := (some .int)) (by decide) rfl ?_
  intro p e s m args below meth c s₁ B hml hv
  obtain ⟨rfl, hG, hZ⟩ := hv
  have hx := B.exec
  have hb := B.bytes
  have hr := B.returns
  have hts : ∀ w ∈ wsL_law, w.before ([.ref (ad 12 0 0), .int x1, .int x2, .int x3] : List Value).toArray s = true := fun w h => (atoms_spec B.pre) w (List.mem_cons_of_mem _ h)
  have hown : s.vm.findClass RX12 = some m.cls := findClass_of_methodNamed B.named
  have hlocks := B.notSynchronized
  have S : zS p m c cX12_order 4 s ([.ref (ad 12 0 0), .int x1, .int x2, .int x3] : List Value).toArray RX12 := ⟨hx, hb, hml, hown, hts⟩
  have hS : va_S A s.heap s.heap [] := va_S.rf
  have hl := lv_entry ([.ref (ad 12 0 0), .int x1, .int x2, .int x3]) (n := 4) (Nat.le_of_ble_eq_true rfl)
  rw [lg_entry_eq]
  generalize (lg_sl ([.ref (ad 12 0 0), .int x1, .int x2, .int x3]) ++ List.replicate (4 - (lg_sl ([.ref (ad 12 0 0), .int x1, .int x2, .int x3])).length) Slot.unset).toArray = ls at hl ⊢
  have hl : lv_has ls 4 [(0, .ref (ad 12 0 0)), (1, .int x1), (2, .int x2), (3, .int x3)] := hl
  generalize hargs : ([.ref (ad 12 0 0), .int x1, .int x2, .int x3] : List Value).toArray = args at S hts ⊢
  clear hargs
  have KJ48 : ∀ (t1b48 : Int32) (t2b48 : Int32)  (σb48 : zM) (H : Heap) (locs : List Loc) (ls : Array Slot), zG D aC A nl ad σb48 s H → va_S A s.heap H locs → lv_has ls 4 [(0, .ref (ad 12 0 0)), (1, .int x1), (2, .int x2), (3, .int x3)] → (f_X12_order_B48 σb48 x1 x2 x3 t1b48 t2b48) = some (r, σ') → zWk p l e ({ frames := 6, cells := 0, slots := 0, locals := 147 } : Room) s m args below meth c A (some (.int r)) (fun t => zG D aC A nl ad σ' t t.heap ∧ True) H locs (F0 m 48 ls [.int t2b48, .int t1b48, .ref (ad 12 0 0)]) := by
    intro t1b48 t2b48  σb48 H locs ls hG hS hl hf
    unfold f_X12_order_B48 at hf
    obtain ⟨σ7, eσ7, hf⟩ := zbi hf
    refine z_callV (n := 2) (rest := []) (st1 := []) (c0 := 12) (i0 := 0) (hZ.2.1 (12, 0) (by decide)) (by rfl) S hG hS hZ (fun _ _ h => h) (c_X12_ranks l D aC zs A nl ad σb48 t1b48 t2b48 σ7 eσ7) zw_1362 zw_1363 zw_1364 zw_5 zw_1365 (by decide +kernel) ⟨rfl, rfl⟩ ⟨(Nat.le_of_ble_eq_true rfl), (Nat.le_of_ble_eq_true rfl)⟩ hl.1 rfl (by rfl) (by rfl) (Nat.le_of_ble_eq_true rfl) dX12_order_48 ⟨Nat.zero_le _, Nat.zero_le _⟩ (fun H locs hz8 hG hS => ?_)
    refine lv_iload_n hx hb dX12_order_51 rfl (lv_at hl 3 rfl) ?_
    refine lv_aload_n hx hb dX12_order_52 rfl (lv_at hl 0 rfl) ?_
    refine z_get (c0 := 12) (i0 := 0) (k0 := 64) (T := TX12) (v := .int (zI σ7 12 0 64)) S hG (hZ.2.1 (12, 0) (by decide)) rfl inlX12 (by decide) rfl zw_1353 rfl dX12_order_53 ?_
    refine lv_icmp_ge (tgt := 68) hx hb dX12_order_56 (by decide) (fun c9 => ?_) (fun c9 => ?_)
    · have hf := zif_p c9 hf
      refine lv_iconst (v := (-1)) hx hb dX12_order_68 (by decide) ?_
      obtain ⟨hq1, hq2⟩ := Prod.mk.inj (Option.some.inj hf)
      subst hq1
      subst hq2
      exact z_iret S hG hS hlocks trivial hr dX12_order_69
    · have hf := zif_n c9 hf
      refine lv_aload_n hx hb dX12_order_59 rfl (lv_at hl 0 rfl) ?_
      refine z_get (c0 := 12) (i0 := 0) (k0 := 63) (T := TX12) (v := .ref (ad 12 0 64)) S hG (hZ.2.1 (12, 0) (by decide)) rfl inlX12 (by decide) rfl zw_265 rfl dX12_order_60 ?_
      refine lv_iload_n hx hb dX12_order_63 rfl (lv_at hl 3 rfl) ?_
      obtain ⟨i10, hi10, hf⟩ := zbi hf
      refine z_iald (c0 := 12) (i0 := 0) (k0 := 63) S hG (hZ.2.1 (12, 0) (by decide)) (by decide) rfl hi10 dX12_order_64 ?_
      refine lv_goto (tgt := 69) hx hb dX12_order_65 (by decide) ?_
      obtain ⟨hq1, hq2⟩ := Prod.mk.inj (Option.some.inj hf)
      subst hq1
      subst hq2
      exact z_iret S hG hS hlocks trivial hr dX12_order_69
  have hK0 : ∀ (H : Heap) (locs : List Loc) (ls : Array Slot), zG D aC A nl ad σ s H → va_S A s.heap H locs → lv_has ls 4 [(0, .ref (ad 12 0 0)), (1, .int x1), (2, .int x2), (3, .int x3)] → f_X12_order σ x1 x2 x3 = some (r, σ') → zWk p l e ({ frames := 6, cells := 0, slots := 0, locals := 147 } : Room) s m args below meth c A (some (.int r)) (fun t => zG D aC A nl ad σ' t t.heap ∧ True) H locs (F0 m 0 ls []) := by
    intro H locs ls hG hS hl hf
    unfold f_X12_order at hf
    refine lv_iload_n hx hb dX12_order_0 rfl (lv_at hl 1 rfl) ?_
    refine lv_iconst (v := 1) hx hb dX12_order_1 (by decide) ?_
    refine lv_aload_n hx hb dX12_order_2 rfl (lv_at hl 0 rfl) ?_
    refine z_get (c0 := 12) (i0 := 0) (k0 := 50) (T := TX12) (v := .int (zI σ 12 0 50)) S hG (hZ.2.1 (12, 0) (by decide)) rfl inlX12 (by decide) rfl zw_1352 rfl dX12_order_3 ?_
    refine z_callS (n := 3) (rest := []) (st1 := [.int (f_X12_isIn x1 1 (zI σ 12 0 50))]) S hG hS hZ (fun _ _ h => h) (c_X12_isIn l D aC zs A nl ad σ x1 1 (zI σ 12 0 50) (f_X12_isIn x1 1 (zI σ 12 0 50)) rfl) zw_514 zw_515 zw_5 zw_516 (by decide +kernel) ⟨rfl, rfl⟩ ⟨(Nat.le_of_ble_eq_true rfl), (Nat.le_of_ble_eq_true rfl)⟩ hl.1 rfl (by rfl) (by rfl) (Nat.le_of_ble_eq_true rfl) dX12_order_6 ⟨Nat.zero_le _, Nat.zero_le _⟩ (fun H locs hz1 hG hS => ?_)
    refine lv_if_eq (tgt := 25) hx hb dX12_order_9 (by decide) (fun c2 => ?_) (fun c2 => ?_)
    · have hf := zif_p c2 hf
      refine lv_iconst (v := (-1)) hx hb dX12_order_25 (by decide) ?_
      obtain ⟨hq1, hq2⟩ := Prod.mk.inj (Option.some.inj hf)
      subst hq1
      subst hq2
      exact z_iret S hG hS hlocks trivial hr dX12_order_26
    · have hf := zif_n c2 hf
      refine lv_iload_n hx hb dX12_order_12 rfl (lv_at hl 2 rfl) ?_
      refine lv_iconst (v := (-1)) hx hb dX12_order_13 (by decide) ?_
      refine lv_iconst (v := 2) hx hb dX12_order_14 (by decide) ?_
      refine z_callS (n := 3) (rest := []) (st1 := [.int (f_X12_isIn x2 (-1) 2)]) S hG hS hZ (fun _ _ h => h) (c_X12_isIn l D aC zs A nl ad σ x2 (-1) 2 (f_X12_isIn x2 (-1) 2) rfl) zw_514 zw_515 zw_5 zw_516 (by decide +kernel) ⟨rfl, rfl⟩ ⟨(Nat.le_of_ble_eq_true rfl), (Nat.le_of_ble_eq_true rfl)⟩ hl.1 rfl (by rfl) (by rfl) (Nat.le_of_ble_eq_true rfl) dX12_order_15 ⟨Nat.zero_le _, Nat.zero_le _⟩ (fun H locs hz3 hG hS => ?_)
      refine lv_if_eq (tgt := 25) hx hb dX12_order_18 (by decide) (fun c4 => ?_) (fun c4 => ?_)
      · have hf := zif_p c4 hf
        refine lv_iconst (v := (-1)) hx hb dX12_order_25 (by decide) ?_
        obtain ⟨hq1, hq2⟩ := Prod.mk.inj (Option.some.inj hf)
        subst hq1
        subst hq2
        exact z_iret S hG hS hlocks trivial hr dX12_order_26
      · have hf := zif_n c4 hf
        refine lv_iload_n hx hb dX12_order_21 rfl (lv_at hl 3 rfl) ?_
        refine lv_if_ge (tgt := 27) hx hb dX12_order_22 (by decide) (fun c5 => ?_) (fun c5 => ?_)
        · have hf := zif_p c5 hf
          refine lv_aload_n hx hb dX12_order_27 rfl (lv_at hl 0 rfl) ?_
          refine lv_iload_n hx hb dX12_order_28 rfl (lv_at hl 1 rfl) ?_
          refine lv_iconst (v := 1) hx hb dX12_order_29 (by decide) ?_
          refine lv_isub hx hb dX12_order_30 ?_
          refine lv_iload_n hx hb dX12_order_31 rfl (lv_at hl 2 rfl) ?_
          refine lv_iconst (v := (-1)) hx hb dX12_order_32 (by decide) ?_
          refine lv_icmp_ne (tgt := 47) hx hb dX12_order_33 (by decide) (fun c6 => ?_) (fun c6 => ?_)
          · have hf := zif_n c6 hf
            refine lv_iload_n hx hb dX12_order_47 rfl (lv_at hl 2 rfl) ?_
            exact KJ48 (x1 - 1) x2 σ H locs ls hG hS (lv_sub hl [0, 1, 2, 3] rfl) hf
          · have hf := zif_p c6 hf
            refine lv_aload_n hx hb dX12_order_36 rfl (lv_at hl 0 rfl) ?_
            refine z_get (c0 := 12) (i0 := 0) (k0 := 60) (T := TX12) (v := .ref (ad 12 0 61)) S hG (hZ.2.1 (12, 0) (by decide)) rfl inlX12 (by decide) rfl zw_262 rfl dX12_order_37 ?_
            refine lv_iload_n hx hb dX12_order_40 rfl (lv_at hl 1 rfl) ?_
            refine lv_iconst (v := 1) hx hb dX12_order_41 (by decide) ?_
            refine lv_isub hx hb dX12_order_42 ?_
            obtain ⟨i11, hi11, hf⟩ := zbi hf
            refine z_iald (c0 := 12) (i0 := 0) (k0 := 60) S hG (hZ.2.1 (12, 0) (by decide)) (by decide) rfl hi11 dX12_order_43 ?_
            refine lv_goto (tgt := 48) hx hb dX12_order_44 (by decide) ?_
            exact KJ48 (x1 - 1) (zA σ 12 0 60 i11) σ H locs ls hG hS (lv_sub hl [0, 1, 2, 3] rfl) hf
        · have hf := zif_n c5 hf
          refine lv_iconst (v := (-1)) hx hb dX12_order_25 (by decide) ?_
          obtain ⟨hq1, hq2⟩ := Prod.mk.inj (Option.some.inj hf)
          subst hq1
          subst hq2
          exact z_iret S hG hS hlocks trivial hr dX12_order_26
  exact hK0 _ _ ls hG hS hl hf
set_option maxRecDepth 100000 in
set_option maxHeartbeats 4000000 in
theorem c_X12_author (l : Launch) (D : va_G) (aC : Nat → ClassId) (zs : Nat × Nat) (A : Nat → Prop) (nl : zNL) (ad : Nat → Nat → Nat → Nat) (σ : zM) (x1 : Int32) (r : Int32)  (hf : f_X12_author σ x1 = some r) : Met l yX12_author (Cond.code yX12_author cX12_author 2 (some .int) :: wsL_law) ({ frames := 2, cells := 0, slots := 0, locals := 43 } : Room) (zP D aC zs zfM A nl ad σ [.ref (ad 12 0 0), .int x1]) (zQ (some (.int r)) (fun t => zG D aC A nl ad σ t t.heap ∧ True) A) 0 0 A := by
  refine Met.ofW (cc := cX12_author) (maxL := 2) (ret := (some .int)) (by decide) rfl ?_
  intro p e s m args below meth c s₁ B hml hv
  obtain ⟨rfl, hG, hZ⟩ := hv
  have hx := B.exec
  have hb := B.bytes
  have hr := B.returns
  have hts : ∀ w ∈ wsL_law, w.before ([.ref (ad 12 0 0), .int x1] : List Value).toArray s = true := fun w h => (atoms_spec B.pre) w (List.mem_cons_of_mem _ h)
  have hown : s.vm.findClass RX12 = some m.cls := findClass_of_methodNamed B.named
  have hlocks := B.notSynchronized
  have S : zS p m c cX12_author 2 s ([.ref (ad 12 0 0), .int x1] : List Value).toArray RX12 := ⟨hx, hb, hml, hown, hts⟩
  have hS : va_S A s.heap s.heap [] := va_S.rf
  have hl := lv_entry ([.ref (ad 12 0 0), .int x1]) (n := 2) (Nat.le_of_ble_eq_true rfl)
  rw [lg_entry_eq]
  generalize (lg_sl ([.ref (ad 12 0 0), .int x1]) ++ List.replicate (2 - (lg_sl ([.ref (ad 12 0 0), .int x1])).length) Slot.unset).toArray = ls at hl ⊢
  have hl : lv_has ls 2 [(0, .ref (ad 12 0 0)), (1, .int x1)] := hl
  generalize hargs : ([.ref (ad 12 0 0), .int x1] : List Value).toArray = args at S hts ⊢
  clear hargs
  have hK0 : ∀ (H : Heap) (locs : List Loc) (ls : Array Slot), zG D aC A nl ad σ s H → va_S A s.heap H locs → lv_has ls 2 [(0, .ref (ad 12 0 0)), (1, .int x1)] → f_X12_author σ x1 = some r → zWk p l e ({ frames := 2, cells := 0, slots := 0, locals := 43 } : Room) s m args below meth c A (some (.int r)) (fun t => zG D aC A nl ad σ t t.heap ∧ True) H locs (F0 m 0 ls []) := by
    intro H locs ls hG hS hl hf
    unfold f_X12_author at hf
    refine lv_aload_n hx hb dX12_author_0 rfl (lv_at hl 0 rfl) ?_
    refine z_get (c0 := 12) (i0 := 0) (k0 := 50) (T := TX12) (v := .int (zI σ 12 0 50)) S hG (hZ.2.1 (12, 0) (by decide)) rfl inlX12 (by decide) rfl zw_1352 rfl dX12_author_1 ?_
    refine lv_iconst (v := 2) hx hb dX12_author_4 (by decide) ?_
    refine lv_icmp_ne (tgt := 25) hx hb dX12_author_5 (by decide) (fun c1 => ?_) (fun c1 => ?_)
    · have hf := zif_n c1 hf
      refine lv_iconst (v := (-1)) hx hb dX12_author_25 (by decide) ?_
      have hq := (Option.some.inj hf)
      subst hq
      exact z_iret S hG hS hlocks trivial hr dX12_author_26
    · have hf := zif_p c1 hf
      refine lv_aload_n hx hb dX12_author_8 rfl (lv_at hl 0 rfl) ?_
      refine lv_iload_n hx hb dX12_author_9 rfl (lv_at hl 1 rfl) ?_
      refine z_callV (n := 1) (rest := []) (st1 := [.int (f_X12_isScheme σ x1)]) (c0 := 12) (i0 := 0) (hZ.2.1 (12, 0) (by decide)) (by rfl) S hG hS hZ (fun _ _ h => h) (c_X12_isScheme l D aC zs A nl ad σ x1 (f_X12_isScheme σ x1) rfl) zw_837 zw_838 zw_839 zw_5 zw_840 (by decide +kernel) ⟨rfl, rfl⟩ ⟨(Nat.le_of_ble_eq_true rfl), (Nat.le_of_ble_eq_true rfl)⟩ hl.1 rfl (by rfl) (by rfl) (Nat.le_of_ble_eq_true rfl) dX12_author_10 ⟨Nat.zero_le _, Nat.zero_le _⟩ (fun H locs hz2 hG hS => ?_)
      refine lv_if_eq (tgt := 25) hx hb dX12_author_13 (by decide) (fun c3 => ?_) (fun c3 => ?_)
      · have hf := zif_p c3 hf
        refine lv_iconst (v := (-1)) hx hb dX12_author_25 (by decide) ?_
        have hq := (Option.some.inj hf)
        subst hq
        exact z_iret S hG hS hlocks trivial hr dX12_author_26
      · have hf := zif_n c3 hf
        refine lv_aload_n hx hb dX12_author_16 rfl (lv_at hl 0 rfl) ?_
        refine z_get (c0 := 12) (i0 := 0) (k0 := 4) (T := TX12) (v := .ref (ad 12 0 5)) S hG (hZ.2.1 (12, 0) (by decide)) rfl inlX12 (by decide) rfl zw_226 rfl dX12_author_17 ?_
        refine lv_iload_n hx hb dX12_author_20 rfl (lv_at hl 1 rfl) ?_
        obtain ⟨i4, hi4, hf⟩ := zbi hf
        refine z_iald (c0 := 12) (i0 := 0) (k0 := 4) S hG (hZ.2.1 (12, 0) (by decide)) (by decide) rfl hi4 dX12_author_21 ?_
        refine lv_goto (tgt := 26) hx hb dX12_author_22 (by decide) ?_
        have hq := (Option.some.inj hf)
        subst hq
        exact z_iret S hG hS hlocks trivial hr dX12_author_26
  exact hK0 _ _ ls hG hS hl hf
set_option maxRecDepth 100000 in
set_option maxHeartbeats 4000000 in
theorem c_X12_winnerNow (l : Launch) (D : va_G) (aC : Nat → ClassId) (zs : Nat × Nat) (A : Nat → Prop) (nl : zNL) (ad : Nat → Nat → Nat → Nat) (σ : zM)  (r : Int32) (σ' : zM)  (hf : f_X12_winnerNow σ = some (r, σ')) : Met l yX12_winnerNow (Cond.code yX12_winnerNow cX12_winnerNow 1 (some .int) :: wsL_law) ({ frames := 6, cells := 0, slots := 0, locals := 147 } : Room) (zP D aC zs zfM A nl ad σ [.ref (ad 12 0 0)]) (zQ (some (.int r)) (fun t => zG D aC A nl ad σ' t t.heap ∧ True) A) 0 0 A := by
  refine Met.ofW (cc := cX12_winnerNow) (maxL := 1) (ret := (some .int)) (by decide) rfl ?_
  intro p e s m args below meth c s₁ B hml hv
  obtain ⟨rfl, hG, hZ⟩ := hv
  have hx := B.exec
  have hb := B.bytes
  have hr := B.returns
  have hts : ∀ w ∈ wsL_law, w.before ([.ref (ad 12 0 0)] : List Value).toArray s = true := fun w h => (atoms_spec B.pre) w (List.mem_cons_of_mem _ h)
  have hown : s.vm.findClass RX12 = some m.cls := findClass_of_methodNamed B.named
  have hlocks := B.notSynchronized
  have S : zS p m c cX12_winnerNow 1 s ([.ref (ad 12 0 0)] : List Value).toArray RX12 := ⟨hx, hb, hml, hown, hts⟩
  have hS : va_S A s.heap s.heap [] := va_S.rf
  have hl := lv_entry ([.ref (ad 12 0 0)]) (n := 1) (Nat.le_of_ble_eq_true rfl)
  rw [lg_entry_eq]
  generalize (lg_sl ([.ref (ad 12 0 0)]) ++ List.replicate (1 - (lg_sl ([.ref (ad 12 0 0)])).length) Slot.unset).toArray = ls at hl ⊢
  have hl : lv_has ls 1 [(0, .ref (ad 12 0 0))] := hl
  generalize hargs : ([.ref (ad 12 0 0)] : List Value).toArray = args at S hts ⊢
  clear hargs
  have hK0 : ∀ (H : Heap) (locs : List Loc) (ls : Array Slot), zG D aC A nl ad σ s H → va_S A s.heap H locs → lv_has ls 1 [(0, .ref (ad 12 0 0))] → f_X12_winnerNow σ = some (r, σ') → zWk p l e ({ frames := 6, cells := 0, slots := 0, locals := 147 } : Room) s m args below meth c A (some (.int r)) (fun t => zG D aC A nl ad σ' t t.heap ∧ True) H locs (F0 m 0 ls []) := by
    intro H locs ls hG hS hl hf
    unfold f_X12_winnerNow at hf
    refine lv_aload_n hx hb dX12_winnerNow_0 rfl (lv_at hl 0 rfl) ?_
    refine z_get (c0 := 12) (i0 := 0) (k0 := 50) (T := TX12) (v := .int (zI σ 12 0 50)) S hG (hZ.2.1 (12, 0) (by decide)) rfl inlX12 (by decide) rfl zw_1352 rfl dX12_winnerNow_1 ?_
    refine lv_iconst (v := 2) hx hb dX12_winnerNow_4 (by decide) ?_
    refine lv_icmp_ge (tgt := 10) hx hb dX12_winnerNow_5 (by decide) (fun c1 => ?_) (fun c1 => ?_)
    · have hf := zif_p c1 hf
      refine lv_aload_n hx hb dX12_winnerNow_10 rfl (lv_at hl 0 rfl) ?_
      refine lv_iconst (v := 1) hx hb dX12_winnerNow_11 (by decide) ?_
      refine lv_aload_n hx hb dX12_winnerNow_12 rfl (lv_at hl 0 rfl) ?_
      refine z_get (c0 := 12) (i0 := 0) (k0 := 60) (T := TX12) (v := .ref (ad 12 0 61)) S hG (hZ.2.1 (12, 0) (by decide)) rfl inlX12 (by decide) rfl zw_262 rfl dX12_winnerNow_13 ?_
      refine lv_iconst (v := 1) hx hb dX12_winnerNow_16 (by decide) ?_
      obtain ⟨i2, hi2, hf⟩ := zbi hf
      refine z_iald (c0 := 12) (i0 := 0) (k0 := 60) S hG (hZ.2.1 (12, 0) (by decide)) (by decide) rfl hi2 dX12_winnerNow_17 ?_
      obtain ⟨σ3, eσ3, hf⟩ := zbi hf
      refine z_callV (n := 2) (rest := []) (st1 := []) (c0 := 12) (i0 := 0) (hZ.2.1 (12, 0) (by decide)) (by rfl) S hG hS hZ (fun _ _ h => h) (c_X12_ranks l D aC zs A nl ad σ 1 (zA σ 12 0 60 i2) σ3 eσ3) zw_1362 zw_1363 zw_1364 zw_5 zw_1365 (by decide +kernel) ⟨rfl, rfl⟩ ⟨(Nat.le_of_ble_eq_true rfl), (Nat.le_of_ble_eq_true rfl)⟩ hl.1 rfl (by rfl) (by rfl) (Nat.le_of_ble_eq_true rfl) dX12_winnerNow_18 ⟨Nat.zero_le _, Nat.zero_le _⟩ (fun H locs hz4 hG hS => ?_)
      refine lv_aload_n hx hb dX12_winnerNow_21 rfl (lv_at hl 0 rfl) ?_
      refine z_get (c0 := 12) (i0 := 0) (k0 := 51) (T := TX12) (v := .int (zI σ3 12 0 51)) S hG (hZ.2.1 (12, 0) (by decide)) rfl inlX12 (by decide) rfl zw_1442 rfl dX12_winnerNow_22 ?_
      refine lv_aload_n hx hb dX12_winnerNow_25 rfl (lv_at hl 0 rfl) ?_
      refine z_get (c0 := 12) (i0 := 0) (k0 := 64) (T := TX12) (v := .int (zI σ3 12 0 64)) S hG (hZ.2.1 (12, 0) (by decide)) rfl inlX12 (by decide) rfl zw_1353 rfl dX12_winnerNow_26 ?_
      refine lv_icmp_ge (tgt := 44) hx hb dX12_winnerNow_29 (by decide) (fun c5 => ?_) (fun c5 => ?_)
      · have hf := zif_p c5 hf
        refine lv_iconst (v := (-1)) hx hb dX12_winnerNow_44 (by decide) ?_
        obtain ⟨hq1, hq2⟩ := Prod.mk.inj (Option.some.inj hf)
        subst hq1
        subst hq2
        exact z_iret S hG hS hlocks trivial hr dX12_winnerNow_45
      · have hf := zif_n c5 hf
        refine lv_aload_n hx hb dX12_winnerNow_32 rfl (lv_at hl 0 rfl) ?_
        refine z_get (c0 := 12) (i0 := 0) (k0 := 63) (T := TX12) (v := .ref (ad 12 0 64)) S hG (hZ.2.1 (12, 0) (by decide)) rfl inlX12 (by decide) rfl zw_265 rfl dX12_winnerNow_33 ?_
        refine lv_aload_n hx hb dX12_winnerNow_36 rfl (lv_at hl 0 rfl) ?_
        refine z_get (c0 := 12) (i0 := 0) (k0 := 51) (T := TX12) (v := .int (zI σ3 12 0 51)) S hG (hZ.2.1 (12, 0) (by decide)) rfl inlX12 (by decide) rfl zw_1442 rfl dX12_winnerNow_37 ?_
        obtain ⟨i6, hi6, hf⟩ := zbi hf
        refine z_iald (c0 := 12) (i0 := 0) (k0 := 63) S hG (hZ.2.1 (12, 0) (by decide)) (by decide) rfl hi6 dX12_winnerNow_40 ?_
        refine lv_goto (tgt := 45) hx hb dX12_winnerNow_41 (by decide) ?_
        obtain ⟨hq1, hq2⟩ := Prod.mk.inj (Option.some.inj hf)
        subst hq1
        subst hq2
        exact z_iret S hG hS hlocks trivial hr dX12_winnerNow_45
    · have hf := zif_n c1 hf
      refine lv_iconst (v := (-1)) hx hb dX12_winnerNow_8 (by decide) ?_
      obtain ⟨hq1, hq2⟩ := Prod.mk.inj (Option.some.inj hf)
      subst hq1
      subst hq2
      exact z_iret S hG hS hlocks trivial hr dX12_winnerNow_9
  exact hK0 _ _ ls hG hS hl hf
set_option maxRecDepth 100000 in
set_option maxHeartbeats 4000000 in
theorem c_X12_winner (l : Launch) (D : va_G) (aC : Nat → ClassId) (zs : Nat × Nat) (A : Nat → Prop) (nl : zNL) (ad : Nat → Nat → Nat → Nat) (σ : zM)  (r : Int32) (σ' : zM)  (hf : f_X12_winner σ = some (r, σ')) : Met l yX12_winner (Cond.code yX12_winner cX12_winner 1 (some .int) :: wsL_law) ({ frames := 7, cells := 0, slots := 0, locals := 167 } : Room) (zP D aC zs zfM A nl ad σ [.ref (ad 12 0 0)]) (zQ (some (.int r)) (fun t => zG D aC A nl ad σ' t t.heap ∧ True) A) 0 0 A := by
  refine Met.ofW (cc := cX12_winner) (maxL := 1) (ret := (some .int)) (by decide) rfl ?_
  intro p e s m args below meth c s₁ B hml hv
  obtain ⟨rfl, hG, hZ⟩ := hv
  have hx := B.exec
  have hb := B.bytes
  have hr := B.returns
  have hts : ∀ w ∈ wsL_law, w.before ([.ref (ad 12 0 0)] : List Value).toArray s = true := fun w h => (atoms_spec B.pre) w (List.mem_cons_of_mem _ h)
  have hown : s.vm.findClass RX12 = some m.cls := findClass_of_methodNamed B.named
  have hlocks := B.notSynchronized
  have S : zS p m c cX12_winner 1 s ([.ref (ad 12 0 0)] : List Value).toArray RX12 := ⟨hx, hb, hml, hown, hts⟩
  have hS : va_S A s.heap s.heap [] := va_S.rf
  have hl := lv_entry ([.ref (ad 12 0 0)]) (n := 1) (Nat.le_of_ble_eq_true rfl)
  rw [lg_entry_eq]
  generalize (lg_sl ([.ref (ad 12 0 0)]) ++ List.replicate (1 - (lg_sl ([.ref (ad 12 0 0)])).length) Slot.unset).toArray = ls at hl ⊢
  have hl : lv_has ls 1 [(0, .ref (ad 12 0 0))] := hl
  generalize hargs : ([.ref (ad 12 0 0)] : List Value).toArray = args at S hts ⊢
  clear hargs
  have hK0 : ∀ (H : Heap) (locs : List Loc) (ls : Array Slot), zG D aC A nl ad σ s H → va_S A s.heap H locs → lv_has ls 1 [(0, .ref (ad 12 0 0))] → f_X12_winner σ = some (r, σ') → zWk p l e ({ frames := 7, cells := 0, slots := 0, locals := 167 } : Room) s m args below meth c A (some (.int r)) (fun t => zG D aC A nl ad σ' t t.heap ∧ True) H locs (F0 m 0 ls []) := by
    intro H locs ls hG hS hl hf
    unfold f_X12_winner at hf
    refine lv_aload_n hx hb dX12_winner_0 rfl (lv_at hl 0 rfl) ?_
    obtain ⟨q1, eq1, hf⟩ := zbi hf
    refine z_callV (n := 0) (rest := []) (st1 := [.int q1.1]) (c0 := 12) (i0 := 0) (hZ.2.1 (12, 0) (by decide)) (by rfl) S hG hS hZ (fun _ _ h => h) (c_X12_winnerNow l D aC zs A nl ad σ q1.1 q1.2 eq1) zw_1438 zw_1439 zw_1440 zw_5 zw_1441 (by decide +kernel) ⟨rfl, rfl⟩ ⟨(Nat.le_of_ble_eq_true rfl), (Nat.le_of_ble_eq_true rfl)⟩ hl.1 rfl (by rfl) (by rfl) (Nat.le_of_ble_eq_true rfl) dX12_winner_1 ⟨Nat.zero_le _, Nat.zero_le _⟩ (fun H locs hz2 hG hS => ?_)
    obtain ⟨hq1, hq2⟩ := Prod.mk.inj (Option.some.inj hf)
    subst hq1
    subst hq2
    exact z_iret S hG hS hlocks trivial hr dX12_winner_4
  exact hK0 _ _ ls hG hS hl hf
set_option maxRecDepth 100000 in
set_option maxHeartbeats 4000000 in
theorem c_X12_fail (l : Launch) (D : va_G) (aC : Nat → ClassId) (zs : Nat × Nat) (A : Nat → Prop) (nl : zNL) (ad : Nat → Nat → Nat → Nat) (σ : zM)  (r : Int32) (σ' : zM)  (hf : f_X12_fail σ = some (r, σ')) : Met l yX12_fail (Cond.code yX12_fail cX12_fail 1 (some .int) :: wsL_law) ({ frames := 7, cells := 0, slots := 0, locals := 167 } : Room) (zP D aC zs zfM A nl ad σ [.ref (ad 12 0 0)]) (zQ (some (.int r)) (fun t => zG D aC A nl ad σ' t t.heap ∧ True) A) 0 0 A := by
  refine Met.ofW (cc := cX12_fail) (maxL := 1) (ret := (some .int)) (by decide) rfl ?_
  intro p e s m args below meth c s₁ B hml hv
  obtain ⟨rfl, hG, hZ⟩ := hv
  have hx := B.exec
  have hb := B.bytes
  have hr := B.returns
  have hts : ∀ w ∈ wsL_law, w.before ([.ref (ad 12 0 0)] : List Value).toArray s = true := fun w h => (atoms_spec B.pre) w (List.mem_cons_of_mem _ h)
  have hown : s.vm.findClass RX12 = some m.cls := findClass_of_methodNamed B.named
  have hlocks := B.notSynchronized
  have S : zS p m c cX12_fail 1 s ([.ref (ad 12 0 0)] : List Value).toArray RX12 := ⟨hx, hb, hml, hown, hts⟩
  have hS : va_S A s.heap s.heap [] := va_S.rf
  have hl := lv_entry ([.ref (ad 12 0 0)]) (n := 1) (Nat.le_of_ble_eq_true rfl)
  rw [lg_entry_eq]
  generalize (lg_sl ([.ref (ad 12 0 0)]) ++ List.replicate (1 - (lg_sl ([.ref (ad 12 0 0)])).length) Slot.unset).toArray = ls at hl ⊢
  have hl : lv_has ls 1 [(0, .ref (ad 12 0 0))] := hl
  generalize hargs : ([.ref (ad 12 0 0)] : List Value).toArray = args at S hts ⊢
  clear hargs
  have hK0 : ∀ (H : Heap) (locs : List Loc) (ls : Array Slot), zG D aC A nl ad σ s H → va_S A s.heap H locs → lv_has ls 1 [(0, .ref (ad 12 0 0))] → f_X12_fail σ = some (r, σ') → zWk p l e ({ frames := 7, cells := 0, slots := 0, locals := 167 } : Room) s m args below meth c A (some (.int r)) (fun t => zG D aC A nl ad σ' t t.heap ∧ True) H locs (F0 m 0 ls []) := by
    intro H locs ls hG hS hl hf
    unfold f_X12_fail at hf
    refine lv_aload_n hx hb dX12_fail_0 rfl (lv_at hl 0 rfl) ?_
    obtain ⟨q1, eq1, hf⟩ := zbi hf
    refine z_callV (n := 0) (rest := []) (st1 := [.int q1.1]) (c0 := 12) (i0 := 0) (hZ.2.1 (12, 0) (by decide)) (by rfl) S hG hS hZ (fun _ _ h => h) (c_X12_winnerNow l D aC zs A nl ad σ q1.1 q1.2 eq1) zw_1438 zw_1439 zw_1440 zw_5 zw_1441 (by decide +kernel) ⟨rfl, rfl⟩ ⟨(Nat.le_of_ble_eq_true rfl), (Nat.le_of_ble_eq_true rfl)⟩ hl.1 rfl (by rfl) (by rfl) (Nat.le_of_ble_eq_true rfl) dX12_fail_1 ⟨Nat.zero_le _, Nat.zero_le _⟩ (fun H locs hz2 hG hS => ?_)
    refine lv_iconst (v := (-1)) hx hb dX12_fail_4 (by decide) ?_
    refine lv_icmp_ne (tgt := 11) hx hb dX12_fail_5 (by decide) (fun c3 => ?_) (fun c3 => ?_)
    · have hf := zif_n c3 hf
      refine lv_aload_n hx hb dX12_fail_11 rfl (lv_at hl 0 rfl) ?_
      refine lv_dup hx hb dX12_fail_12 rfl ?_
      refine z_get (c0 := 12) (i0 := 0) (k0 := 51) (T := TX12) (v := .int (zI q1.2 12 0 51)) S hG (hZ.2.1 (12, 0) (by decide)) rfl inlX12 (by decide) rfl zw_1442 rfl dX12_fail_13 ?_
      refine lv_iconst (v := 1) hx hb dX12_fail_16 (by decide) ?_
      refine lv_iadd hx hb dX12_fail_17 ?_
      refine z_putI (c0 := 12) (i0 := 0) (k0 := 51) (T := TX12) S hG hS tyX12 tyX12_ok nmX12 (hZ.2.1 (12, 0) (by decide)) rfl inlX12 (by decide) rfl rfl zw_1442 (by decide +kernel) rfl dX12_fail_18 (fun H locs hG hS => ?_)
      obtain ⟨σ4, eσ4, hf⟩ := zlt_s hf
      rw [← eσ4] at hG
      refine lv_aload_n hx hb dX12_fail_21 rfl (lv_at hl 0 rfl) ?_
      refine lv_iconst (v := 0) hx hb dX12_fail_22 (by decide) ?_
      refine z_putI (c0 := 12) (i0 := 0) (k0 := 52) (T := TX12) S hG hS tyX12 tyX12_ok nmX12 (hZ.2.1 (12, 0) (by decide)) rfl inlX12 (by decide) rfl rfl zw_1452 (by decide +kernel) rfl dX12_fail_23 (fun H locs hG hS => ?_)
      obtain ⟨σ5, eσ5, hf⟩ := zlt_s hf
      rw [← eσ5] at hG
      refine lv_aload_n hx hb dX12_fail_26 rfl (lv_at hl 0 rfl) ?_
      obtain ⟨q6, eq6, hf⟩ := zbi hf
      refine z_callV (n := 0) (rest := []) (st1 := [.int q6.1]) (c0 := 12) (i0 := 0) (hZ.2.1 (12, 0) (by decide)) (by rfl) S hG hS hZ (fun _ _ h => h) (c_X12_winnerNow l D aC zs A nl ad σ5 q6.1 q6.2 eq6) zw_1438 zw_1439 zw_1440 zw_5 zw_1441 (by decide +kernel) ⟨rfl, rfl⟩ ⟨(Nat.le_of_ble_eq_true rfl), (Nat.le_of_ble_eq_true rfl)⟩ hl.1 rfl (by rfl) (by rfl) (Nat.le_of_ble_eq_true rfl) dX12_fail_27 ⟨Nat.zero_le _, Nat.zero_le _⟩ (fun H locs hz7 hG hS => ?_)
      obtain ⟨hq1, hq2⟩ := Prod.mk.inj (Option.some.inj hf)
      subst hq1
      subst hq2
      exact z_iret S hG hS hlocks trivial hr dX12_fail_30
    · have hf := zif_p c3 hf
      refine lv_bipush (v := (-2)) hx hb dX12_fail_8 (by decide) ?_
      obtain ⟨hq1, hq2⟩ := Prod.mk.inj (Option.some.inj hf)
      subst hq1
      subst hq2
      exact z_iret S hG hS hlocks trivial hr dX12_fail_10
  exact hK0 _ _ ls hG hS hl hf
set_option maxRecDepth 100000 in
set_option maxHeartbeats 4000000 in
theorem c_X12_pay (l : Launch) (D : va_G) (aC : Nat → ClassId) (zs : Nat × Nat) (A : Nat → Prop) (nl : zNL) (ad : Nat → Nat → Nat → Nat) (σ : zM)  (r : Int32) (σ' : zM)  (hf : f_X12_pay σ = some (r, σ')) : Met l yX12_pay (Cond.code yX12_pay cX12_pay 3 (some .int) :: wsL_law) ({ frames := 7, cells := 0, slots := 0, locals := 167 } : Room) (zP D aC zs zfM A nl ad σ [.ref (ad 12 0 0)]) (zQ (some (.int r)) (fun t => zG D aC A nl ad σ' t t.heap ∧ True) A) 0 0 A := by
  refine Met.ofW (cc := cX12_pay) (maxL := 3) (ret := (some .int)) (by decide) rfl ?_
  intro p e s m args below meth c s₁ B hml hv
  obtain ⟨rfl, hG, hZ⟩ := hv
  have hx := B.exec
  have hb := B.bytes
  have hr := B.returns
  have hts : ∀ w ∈ wsL_law, w.before ([.ref (ad 12 0 0)] : List Value).toArray s = true := fun w h => (atoms_spec B.pre) w (List.mem_cons_of_mem _ h)
  have hown : s.vm.findClass RX12 = some m.cls := findClass_of_methodNamed B.named
  have hlocks := B.notSynchronized
  have S : zS p m c cX12_pay 3 s ([.ref (ad 12 0 0)] : List Value).toArray RX12 := ⟨hx, hb, hml, hown, hts⟩
  have hS : va_S A s.heap s.heap [] := va_S.rf
  have hl := lv_entry ([.ref (ad 12 0 0)]) (n := 3) (Nat.le_of_ble_eq_true rfl)
  rw [lg_entry_eq]
  generalize (lg_sl ([.ref (ad 12 0 0)]) ++ List.replicate (3 - (lg_sl ([.ref (ad 12 0 0)])).length) Slot.unset).toArray = ls at hl ⊢
  have hl : lv_has ls 3 [(0, .ref (ad 12 0 0))] := hl
  generalize hargs : ([.ref (ad 12 0 0)] : List Value).toArray = args at S hts ⊢
  clear hargs
  have hK0 : ∀ (H : Heap) (locs : List Loc) (ls : Array Slot), zG D aC A nl ad σ s H → va_S A s.heap H locs → lv_has ls 3 [(0, .ref (ad 12 0 0))] → f_X12_pay σ = some (r, σ') → zWk p l e ({ frames := 7, cells := 0, slots := 0, locals := 167 } : Room) s m args below meth c A (some (.int r)) (fun t => zG D aC A nl ad σ' t t.heap ∧ True) H locs (F0 m 0 ls []) := by
    intro H locs ls hG hS hl hf
    unfold f_X12_pay at hf
    refine lv_aload_n hx hb dX12_pay_0 rfl (lv_at hl 0 rfl) ?_
    obtain ⟨q1, eq1, hf⟩ := zbi hf
    refine z_callV (n := 0) (rest := []) (st1 := [.int q1.1]) (c0 := 12) (i0 := 0) (hZ.2.1 (12, 0) (by decide)) (by rfl) S hG hS hZ (fun _ _ h => h) (c_X12_winnerNow l D aC zs A nl ad σ q1.1 q1.2 eq1) zw_1438 zw_1439 zw_1440 zw_5 zw_1441 (by decide +kernel) ⟨rfl, rfl⟩ ⟨(Nat.le_of_ble_eq_true rfl), (Nat.le_of_ble_eq_true rfl)⟩ hl.1 rfl (by rfl) (by rfl) (Nat.le_of_ble_eq_true rfl) dX12_pay_1 ⟨Nat.zero_le _, Nat.zero_le _⟩ (fun H locs hz2 hG hS => ?_)
    refine lv_istore_n (lv' := [(1, .int q1.1), (0, .ref (ad 12 0 0))]) hx hb dX12_pay_4 rfl hl (by decide) rfl (fun ls hl => ?_)
    refine lv_iload_n hx hb dX12_pay_5 rfl (lv_at hl 0 rfl) ?_
    refine lv_iconst (v := (-1)) hx hb dX12_pay_6 (by decide) ?_
    refine lv_icmp_eq (tgt := 18) hx hb dX12_pay_7 (by decide) (fun c3 => ?_) (fun c3 => ?_)
    · have hf := zif_p c3 hf
      refine lv_iconst (v := (-1)) hx hb dX12_pay_18 (by decide) ?_
      obtain ⟨hq1, hq2⟩ := Prod.mk.inj (Option.some.inj hf)
      subst hq1
      subst hq2
      exact z_iret S hG hS hlocks trivial hr dX12_pay_19
    · have hf := zif_n c3 hf
      refine lv_aload_n hx hb dX12_pay_10 rfl (lv_at hl 1 rfl) ?_
      refine z_get (c0 := 12) (i0 := 0) (k0 := 52) (T := TX12) (v := .int (zI q1.2 12 0 52)) S hG (hZ.2.1 (12, 0) (by decide)) rfl inlX12 (by decide) rfl zw_1452 rfl dX12_pay_11 ?_
      refine lv_iconst (v := 3) hx hb dX12_pay_14 (by decide) ?_
      refine lv_icmp_ne (tgt := 20) hx hb dX12_pay_15 (by decide) (fun c4 => ?_) (fun c4 => ?_)
      · have hf := zif_n c4 hf
        refine lv_aload_n hx hb dX12_pay_20 rfl (lv_at hl 1 rfl) ?_
        refine lv_iload_n hx hb dX12_pay_21 rfl (lv_at hl 0 rfl) ?_
        refine lv_aload_n hx hb dX12_pay_22 rfl (lv_at hl 1 rfl) ?_
        refine lv_iload_n hx hb dX12_pay_23 rfl (lv_at hl 0 rfl) ?_
        obtain ⟨r5, er5, hf⟩ := zbi hf
        refine z_callV (n := 1) (rest := [.int q1.1, .ref (ad 12 0 0)]) (st1 := [.int r5, .int q1.1, .ref (ad 12 0 0)]) (c0 := 12) (i0 := 0) (hZ.2.1 (12, 0) (by decide)) (by rfl) S hG hS hZ (fun _ _ h => h) (c_X12_briefOf l D aC zs A nl ad q1.2 q1.1 r5 er5) zw_1044 zw_1045 zw_1046 zw_5 zw_1047 (by decide +kernel) ⟨rfl, rfl⟩ ⟨(Nat.le_of_ble_eq_true rfl), (Nat.le_of_ble_eq_true rfl)⟩ hl.1 rfl (by rfl) (by rfl) (Nat.le_of_ble_eq_true rfl) dX12_pay_24 ⟨Nat.zero_le _, Nat.zero_le _⟩ (fun H locs hz6 hG hS => ?_)
        obtain ⟨r7, er7, hf⟩ := zbi hf
        refine z_callV (n := 2) (rest := []) (st1 := [.int r7]) (c0 := 12) (i0 := 0) (hZ.2.1 (12, 0) (by decide)) (by rfl) S hG hS hZ (fun _ _ h => h) (c_X12_costBy l D aC zs A nl ad q1.2 q1.1 r5 r7 er7) zw_962 zw_963 zw_964 zw_5 zw_965 (by decide +kernel) ⟨rfl, rfl⟩ ⟨(Nat.le_of_ble_eq_true rfl), (Nat.le_of_ble_eq_true rfl)⟩ hl.1 rfl (by rfl) (by rfl) (Nat.le_of_ble_eq_true rfl) dX12_pay_27 ⟨Nat.zero_le _, Nat.zero_le _⟩ (fun H locs hz8 hG hS => ?_)
        refine lv_i2l (v := r7.toInt64) hx hb dX12_pay_30 rfl ?_
        refine lv_aload_n hx hb dX12_pay_31 rfl (lv_at hl 1 rfl) ?_
        refine lv_aload_n hx hb dX12_pay_32 rfl (lv_at hl 1 rfl) ?_
        refine lv_aload_n hx hb dX12_pay_33 rfl (lv_at hl 1 rfl) ?_
        refine z_get (c0 := 12) (i0 := 0) (k0 := 0) (T := TX12) (v := .int (zI q1.2 12 0 0)) S hG (hZ.2.1 (12, 0) (by decide)) rfl inlX12 (by decide) rfl zw_278 rfl dX12_pay_34 ?_
        obtain ⟨r9, er9, hf⟩ := zbi hf
        refine z_callV (n := 1) (rest := [.ref (ad 12 0 0), .long r7.toInt64]) (st1 := [.int r9, .ref (ad 12 0 0), .long r7.toInt64]) (c0 := 12) (i0 := 0) (hZ.2.1 (12, 0) (by decide)) (by rfl) S hG hS hZ (fun _ _ h => h) (c_X12_bindsOn l D aC zs A nl ad q1.2 (zI q1.2 12 0 0) r9 er9) zw_688 zw_689 zw_690 zw_5 zw_691 (by decide +kernel) ⟨rfl, rfl⟩ ⟨(Nat.le_of_ble_eq_true rfl), (Nat.le_of_ble_eq_true rfl)⟩ hl.1 rfl (by rfl) (by rfl) (Nat.le_of_ble_eq_true rfl) dX12_pay_37 ⟨Nat.zero_le _, Nat.zero_le _⟩ (fun H locs hz10 hG hS => ?_)
        refine lv_bipush (v := 8) hx hb dX12_pay_40 (by decide) ?_
        refine lv_aload_n hx hb dX12_pay_42 rfl (lv_at hl 1 rfl) ?_
        refine z_get (c0 := 12) (i0 := 0) (k0 := 52) (T := TX12) (v := .int (zI q1.2 12 0 52)) S hG (hZ.2.1 (12, 0) (by decide)) rfl inlX12 (by decide) rfl zw_1452 rfl dX12_pay_43 ?_
        refine lv_iadd hx hb dX12_pay_46 ?_
        obtain ⟨r11, er11, hf⟩ := zbi hf
        refine z_callV (n := 2) (rest := [.long r7.toInt64]) (st1 := [.int r11, .long r7.toInt64]) (c0 := 12) (i0 := 0) (hZ.2.1 (12, 0) (by decide)) (by rfl) S hG hS hZ (fun _ _ h => h) (c_X12_tells l D aC zs A nl ad q1.2 r9 (8 + (zI q1.2 12 0 52)) r11 er11) zw_724 zw_725 zw_726 zw_5 zw_727 (by decide +kernel) ⟨rfl, rfl⟩ ⟨(Nat.le_of_ble_eq_true rfl), (Nat.le_of_ble_eq_true rfl)⟩ hl.1 rfl (by rfl) (by rfl) (Nat.le_of_ble_eq_true rfl) dX12_pay_47 ⟨Nat.zero_le _, Nat.zero_le _⟩ (fun H locs hz12 hG hS => ?_)
        refine lv_i2l (v := r11.toInt64) hx hb dX12_pay_50 rfl ?_
        refine lv_lmul hx hb dX12_pay_51 ?_
        refine lv_ldc2 (v := 100) hx hb hown (hts _ zw_961) dX12_pay_52 ?_
        refine lv_ldiv hx hb dX12_pay_55 (by decide) ?_
        refine lv_l2i (v := ((r7.toInt64 * r11.toInt64) / 100).toInt32) hx hb dX12_pay_56 rfl ?_
        refine lv_istore_n (lv' := [(2, .int (((r7.toInt64 * r11.toInt64) / 100).toInt32)), (1, .int q1.1), (0, .ref (ad 12 0 0))]) hx hb dX12_pay_57 rfl hl (by decide) rfl (fun ls hl => ?_)
        refine lv_aload_n hx hb dX12_pay_58 rfl (lv_at hl 2 rfl) ?_
        refine lv_dup hx hb dX12_pay_59 rfl ?_
        refine z_get (c0 := 12) (i0 := 0) (k0 := 52) (T := TX12) (v := .int (zI q1.2 12 0 52)) S hG (hZ.2.1 (12, 0) (by decide)) rfl inlX12 (by decide) rfl zw_1452 rfl dX12_pay_60 ?_
        refine lv_iconst (v := 1) hx hb dX12_pay_63 (by decide) ?_
        refine lv_iadd hx hb dX12_pay_64 ?_
        refine z_putI (c0 := 12) (i0 := 0) (k0 := 52) (T := TX12) S hG hS tyX12 tyX12_ok nmX12 (hZ.2.1 (12, 0) (by decide)) rfl inlX12 (by decide) rfl rfl zw_1452 (by decide +kernel) rfl dX12_pay_65 (fun H locs hG hS => ?_)
        obtain ⟨σ13, eσ13, hf⟩ := zlt_s hf
        rw [← eσ13] at hG
        refine lv_aload_n hx hb dX12_pay_68 rfl (lv_at hl 2 rfl) ?_
        refine lv_dup hx hb dX12_pay_69 rfl ?_
        refine z_get (c0 := 12) (i0 := 0) (k0 := 53) (T := TX12) (v := .int (zI σ13 12 0 53)) S hG (hZ.2.1 (12, 0) (by decide)) rfl inlX12 (by decide) rfl zw_1461 rfl dX12_pay_70 ?_
        refine lv_iload_n hx hb dX12_pay_73 rfl (lv_at hl 0 rfl) ?_
        refine lv_iadd hx hb dX12_pay_74 ?_
        refine z_putI (c0 := 12) (i0 := 0) (k0 := 53) (T := TX12) S hG hS tyX12 tyX12_ok nmX12 (hZ.2.1 (12, 0) (by decide)) rfl inlX12 (by decide) rfl rfl zw_1461 (by decide +kernel) rfl dX12_pay_75 (fun H locs hG hS => ?_)
        obtain ⟨σ14, eσ14, hf⟩ := zlt_s hf
        rw [← eσ14] at hG
        refine lv_iload_n hx hb dX12_pay_78 rfl (lv_at hl 0 rfl) ?_
        obtain ⟨hq1, hq2⟩ := Prod.mk.inj (Option.some.inj hf)
        subst hq1
        subst hq2
        exact z_iret S hG hS hlocks trivial hr dX12_pay_79
      · have hf := zif_p c4 hf
        refine lv_iconst (v := (-1)) hx hb dX12_pay_18 (by decide) ?_
        obtain ⟨hq1, hq2⟩ := Prod.mk.inj (Option.some.inj hf)
        subst hq1
        subst hq2
        exact z_iret S hG hS hlocks trivial hr dX12_pay_19
  exact hK0 _ _ ls hG hS hl hf
set_option maxRecDepth 100000 in
set_option maxHeartbeats 4000000 in
theorem c_X12_count (l : Launch) (D : va_G) (aC : Nat → ClassId) (zs : Nat × Nat) (A : Nat → Prop) (nl : zNL) (ad : Nat → Nat → Nat → Nat) (σ : zM) (x1 : Int32) (r : Int32)  (hf : f_X12_count σ x1 = some r) : Met l yX12_count (Cond.code yX12_count cX12_count 4 (some .int) :: wsL_law) ({ frames := 1, cells := 0, slots := 0, locals := 20 } : Room) (zP D aC zs zfM A nl ad σ [.ref (ad 12 0 0), .int x1]) (zQ (some (.int r)) (fun t => zG D aC A nl ad σ t t.heap ∧ True) A) 0 0 A := by
  refine Met.ofW (cc := cX12_count) (maxL := 4) (ret := (some .int)) (by decide) rfl ?_
  intro p e s m args below meth c s₁ B hml hv
  obtain ⟨rfl, hG, hZ⟩ := hv
  have hx := B.exec
  have hb := B.bytes
  have hr := B.returns
  have hts : ∀ w ∈ wsL_law, w.before ([.ref (ad 12 0 0), .int x1] : List Value).toArray s = true := fun w h => (atoms_spec B.pre) w (List.mem_cons_of_mem _ h)
  have hown : s.vm.findClass RX12 = some m.cls := findClass_of_methodNamed B.named
  have hlocks := B.notSynchronized
  have S : zS p m c cX12_count 4 s ([.ref (ad 12 0 0), .int x1] : List Value).toArray RX12 := ⟨hx, hb, hml, hown, hts⟩
  have hS : va_S A s.heap s.heap [] := va_S.rf
  have hl := lv_entry ([.ref (ad 12 0 0), .int x1]) (n := 4) (Nat.le_of_ble_eq_true rfl)
  rw [lg_entry_eq]
  generalize (lg_sl ([.ref (ad 12 0 0), .int x1]) ++ List.replicate (4 - (lg_sl ([.ref (ad 12 0 0), .int x1])).length) Slot.unset).toArray = ls at hl ⊢
  have hl : lv_has ls 4 [(0, .ref (ad 12 0 0)), (1, .int x1)] := hl
  generalize hargs : ([.ref (ad 12 0 0), .int x1] : List Value).toArray = args at S hts ⊢
  clear hargs
  have hK0 : ∀ (H : Heap) (locs : List Loc) (ls : Array Slot), zG D aC A nl ad σ s H → va_S A s.heap H locs → lv_has ls 4 [(0, .ref (ad 12 0 0)), (1, .int x1)] → f_X12_count σ x1 = some r → zWk p l e ({ frames := 1, cells := 0, slots := 0, locals := 20 } : Room) s m args below meth c A (some (.int r)) (fun t => zG D aC A nl ad σ t t.heap ∧ True) H locs (F0 m 0 ls []) := by
    intro H locs ls hG hS hl hf
    unfold f_X12_count at hf
    refine lv_iconst (v := 0) hx hb dX12_count_0 (by decide) ?_
    refine lv_istore_n (lv' := [(2, .int 0), (0, .ref (ad 12 0 0)), (1, .int x1)]) hx hb dX12_count_1 rfl hl (by decide) rfl (fun ls hl => ?_)
    refine lv_iload_n hx hb dX12_count_2 rfl (lv_at hl 2 rfl) ?_
    by_cases c1 : x1 = 0
    · have hf := zif_p c1 hf
      refine lv_tableIn (x := x1) (off := 73) (tgt := 76) hx hb dX12_count_3 (by rw [c1]; decide) (by rw [c1]; decide) (by rw [c1]; decide) (by decide) ?_
      refine lv_aload_n hx hb dX12_count_76 rfl (lv_at hl 1 rfl) ?_
      refine z_get (c0 := 12) (i0 := 0) (k0 := 0) (T := TX12) (v := .int (zI σ 12 0 0)) S hG (hZ.2.1 (12, 0) (by decide)) rfl inlX12 (by decide) rfl zw_278 rfl dX12_count_77 ?_
      have hq := (Option.some.inj hf)
      subst hq
      exact z_iret S hG hS hlocks trivial hr dX12_count_80
    · have hf := zif_n c1 hf
      by_cases c2 : x1 = 1
      · have hf := zif_p c2 hf
        refine lv_tableIn (x := x1) (off := 78) (tgt := 81) hx hb dX12_count_3 (by rw [c2]; decide) (by rw [c2]; decide) (by rw [c2]; decide) (by decide) ?_
        refine lv_aload_n hx hb dX12_count_81 rfl (lv_at hl 1 rfl) ?_
        refine z_get (c0 := 12) (i0 := 0) (k0 := 16) (T := TX12) (v := .int (zI σ 12 0 16)) S hG (hZ.2.1 (12, 0) (by decide)) rfl inlX12 (by decide) rfl zw_508 rfl dX12_count_82 ?_
        have hq := (Option.some.inj hf)
        subst hq
        exact z_iret S hG hS hlocks trivial hr dX12_count_85
      · have hf := zif_n c2 hf
        by_cases c3 : x1 = 2
        · have hf := zif_p c3 hf
          refine lv_tableIn (x := x1) (off := 83) (tgt := 86) hx hb dX12_count_3 (by rw [c3]; decide) (by rw [c3]; decide) (by rw [c3]; decide) (by decide) ?_
          refine lv_aload_n hx hb dX12_count_86 rfl (lv_at hl 1 rfl) ?_
          refine z_get (c0 := 12) (i0 := 0) (k0 := 17) (T := TX12) (v := .int (zI σ 12 0 17)) S hG (hZ.2.1 (12, 0) (by decide)) rfl inlX12 (by decide) rfl zw_510 rfl dX12_count_87 ?_
          have hq := (Option.some.inj hf)
          subst hq
          exact z_iret S hG hS hlocks trivial hr dX12_count_90
        · have hf := zif_n c3 hf
          by_cases c4 : x1 = 3
          · have hf := zif_p c4 hf
            refine lv_tableIn (x := x1) (off := 88) (tgt := 91) hx hb dX12_count_3 (by rw [c4]; decide) (by rw [c4]; decide) (by rw [c4]; decide) (by decide) ?_
            refine lv_aload_n hx hb dX12_count_91 rfl (lv_at hl 1 rfl) ?_
            refine z_get (c0 := 12) (i0 := 0) (k0 := 1) (T := TX12) (v := .int (zI σ 12 0 1)) S hG (hZ.2.1 (12, 0) (by decide)) rfl inlX12 (by decide) rfl zw_801 rfl dX12_count_92 ?_
            have hq := (Option.some.inj hf)
            subst hq
            exact z_iret S hG hS hlocks trivial hr dX12_count_95
          · have hf := zif_n c4 hf
            by_cases c5 : x1 = 4
            · have hf := zif_p c5 hf
              refine lv_tableIn (x := x1) (off := 93) (tgt := 96) hx hb dX12_count_3 (by rw [c5]; decide) (by rw [c5]; decide) (by rw [c5]; decide) (by decide) ?_
              refine lv_iconst (v := 0) hx hb dX12_count_96 (by decide) ?_
              refine lv_istore_n (lv' := [(3, .int 0), (2, .int 0), (0, .ref (ad 12 0 0)), (1, .int x1)]) hx hb dX12_count_97 rfl hl (by decide) rfl (fun ls hl => ?_)
              obtain ⟨t98, hw98, hfo98⟩ := zbi hf
              have KL98 : ∀ (n : Nat) (y2l98 : Int32) (y3l98 : Int32) (H : Heap) (locs : List Loc) (ls : Array Slot), zG D aC A nl ad σ s H → va_S A s.heap H locs → lv_has ls 4 [(0, .ref (ad 12 0 0)), (1, .int x1), (2, .int y2l98), (3, .int y3l98)] → zwh (fun (q : (Int32 × Int32)) => f_X12_count_L98 σ x1 q.1 q.2) n (y2l98, y3l98) = some t98 → zWk p l e ({ frames := 1, cells := 0, slots := 0, locals := 20 } : Room) s m args below meth c A (some (.int r)) (fun t => zG D aC A nl ad σ t t.heap ∧ True) H locs (F0 m 98 ls []) := by
                intro n
                induction n with
                | zero =>
                  intro y2l98 y3l98 H locs ls hG hS hl hw
                  exact (zwh_0 hw).elim
                | succ n ih98 =>
                  intro y2l98 y3l98 H locs ls hG hS hl hw
                  obtain ⟨rr98, hf, hk98⟩ := zwh_u hw
                  have hf : f_X12_count_L98 σ x1 y2l98 y3l98 = some rr98 := hf
                  unfold f_X12_count_L98 at hf
                  refine lv_iload_n hx hb dX12_count_98 rfl (lv_at hl 3 rfl) ?_
                  refine lv_aload_n hx hb dX12_count_99 rfl (lv_at hl 0 rfl) ?_
                  refine z_get (c0 := 12) (i0 := 0) (k0 := 1) (T := TX12) (v := .int (zI σ 12 0 1)) S hG (hZ.2.1 (12, 0) (by decide)) rfl inlX12 (by decide) rfl zw_801 rfl dX12_count_100 ?_
                  refine lv_icmp_ge (tgt := 133) hx hb dX12_count_103 (by decide) (fun c13 => ?_) (fun c13 => ?_)
                  · have hf := zif_p c13 hf
                    cases hf
                    have hk98 : (y2l98 : Int32) = t98 := hk98
                    have hf := hfo98
                    rw [← hk98] at hf
                    have hf : (some y2l98) = some r := hf
                    refine lv_iload_n hx hb dX12_count_133 rfl (lv_at hl 2 rfl) ?_
                    have hq := (Option.some.inj hf)
                    subst hq
                    exact z_iret S hG hS hlocks trivial hr dX12_count_134
                  · have hf := zif_n c13 hf
                    refine lv_iload_n hx hb dX12_count_106 rfl (lv_at hl 2 rfl) ?_
                    refine lv_aload_n hx hb dX12_count_107 rfl (lv_at hl 0 rfl) ?_
                    refine z_get (c0 := 12) (i0 := 0) (k0 := 5) (T := TX12) (v := .ref (ad 12 0 6)) S hG (hZ.2.1 (12, 0) (by decide)) rfl inlX12 (by decide) rfl zw_227 rfl dX12_count_108 ?_
                    refine lv_iload_n hx hb dX12_count_111 rfl (lv_at hl 3 rfl) ?_
                    obtain ⟨i14, hi14, hf⟩ := zbi hf
                    refine z_iald (c0 := 12) (i0 := 0) (k0 := 5) S hG (hZ.2.1 (12, 0) (by decide)) (by decide) rfl hi14 dX12_count_112 ?_
                    refine lv_iconst (v := (-1)) hx hb dX12_count_113 (by decide) ?_
                    have Kv17 : ∀ (v17 : Int32) (ls : Array Slot), lv_has ls 4 [(0, .ref (ad 12 0 0)), (1, .int x1), (2, .int y2l98), (3, .int y3l98)] → (some (.inl ((y2l98 + (f_X12_one v17)), (y3l98 + 1)))) = some rr98 → zWk p l e ({ frames := 1, cells := 0, slots := 0, locals := 20 } : Room) s m args below meth c A (some (.int r)) (fun t => zG D aC A nl ad σ t t.heap ∧ True) H locs (F0 m 122 ls [.int v17, .int y2l98]) := by
                      intro v17 ls hl hf
                      refine z_callS (n := 1) (rest := [.int y2l98]) (st1 := [.int (f_X12_one v17), .int y2l98]) S hG hS hZ (fun _ _ h => h) (c_X12_one l D aC zs A nl ad σ v17 (f_X12_one v17) rfl) zw_903 zw_904 zw_5 zw_905 (by decide +kernel) ⟨rfl, rfl⟩ ⟨(Nat.le_of_ble_eq_true rfl), (Nat.le_of_ble_eq_true rfl)⟩ hl.1 rfl (by rfl) (by rfl) (Nat.le_of_ble_eq_true rfl) dX12_count_122 ⟨Nat.zero_le _, Nat.zero_le _⟩ (fun H locs hz19 hG hS => ?_)
                      refine lv_iadd hx hb dX12_count_125 ?_
                      refine lv_istore_n (lv' := [(2, .int (y2l98 + (f_X12_one v17))), (0, .ref (ad 12 0 0)), (1, .int x1), (3, .int y3l98)]) hx hb dX12_count_126 rfl hl (by decide) rfl (fun ls hl => ?_)
                      refine lv_iinc (v := (y3l98 + 1)) (lv' := [(3, .int (y3l98 + 1)), (2, .int (y2l98 + (f_X12_one v17))), (0, .ref (ad 12 0 0)), (1, .int x1)]) hx hb dX12_count_127 hl (k := 3) rfl rfl (by decide) rfl (fun ls hl => ?_)
                      refine lv_goto (tgt := 98) hx hb dX12_count_130 (by decide) ?_
                      cases hf
                      exact ih98 (y2l98 + (f_X12_one v17)) (y3l98 + 1) H locs ls hG hS (lv_sub hl [2, 3, 1, 0] rfl) hk98
                    refine lv_icmp_eq (tgt := 121) hx hb dX12_count_114 (by decide) (fun c16 => ?_) (fun c16 => ?_)
                    · rw [if_pos c16] at hf
                      refine lv_iconst (v := 0) hx hb dX12_count_121 (by decide) ?_
                      exact Kv17 _ ls hl hf
                    · rw [if_neg c16] at hf
                      refine lv_iconst (v := 1) hx hb dX12_count_117 (by decide) ?_
                      refine lv_goto (tgt := 122) hx hb dX12_count_118 (by decide) ?_
                      exact Kv17 _ ls hl hf
              exact KL98 zFu 0 0 H locs ls hG hS (lv_sub hl [2, 3, 1, 0] rfl) hw98
            · have hf := zif_n c5 hf
              by_cases c20 : x1 = 5
              · have hf := zif_p c20 hf
                refine lv_tableIn (x := x1) (off := 132) (tgt := 135) hx hb dX12_count_3 (by rw [c20]; decide) (by rw [c20]; decide) (by rw [c20]; decide) (by decide) ?_
                refine lv_aload_n hx hb dX12_count_135 rfl (lv_at hl 1 rfl) ?_
                refine z_get (c0 := 12) (i0 := 0) (k0 := 48) (T := TX12) (v := .int (zI σ 12 0 48)) S hG (hZ.2.1 (12, 0) (by decide)) rfl inlX12 (by decide) rfl zw_1202 rfl dX12_count_136 ?_
                have hq := (Option.some.inj hf)
                subst hq
                exact z_iret S hG hS hlocks trivial hr dX12_count_139
              · have hf := zif_n c20 hf
                by_cases c21 : x1 = 6
                · have hf := zif_p c21 hf
                  refine lv_tableIn (x := x1) (off := 137) (tgt := 140) hx hb dX12_count_3 (by rw [c21]; decide) (by rw [c21]; decide) (by rw [c21]; decide) (by decide) ?_
                  refine lv_aload_n hx hb dX12_count_140 rfl (lv_at hl 1 rfl) ?_
                  refine z_get (c0 := 12) (i0 := 0) (k0 := 54) (T := TX12) (v := .int (zI σ 12 0 54)) S hG (hZ.2.1 (12, 0) (by decide)) rfl inlX12 (by decide) rfl zw_1272 rfl dX12_count_141 ?_
                  refine lv_if_eq (tgt := 154) hx hb dX12_count_144 (by decide) (fun c22 => ?_) (fun c22 => ?_)
                  · have hf := zif_p c22 hf
                    refine lv_iconst (v := 0) hx hb dX12_count_154 (by decide) ?_
                    have hq := (Option.some.inj hf)
                    subst hq
                    exact z_iret S hG hS hlocks trivial hr dX12_count_155
                  · have hf := zif_n c22 hf
                    refine lv_aload_n hx hb dX12_count_147 rfl (lv_at hl 1 rfl) ?_
                    refine z_get (c0 := 12) (i0 := 0) (k0 := 49) (T := TX12) (v := .int (zI σ 12 0 49)) S hG (hZ.2.1 (12, 0) (by decide)) rfl inlX12 (by decide) rfl zw_1274 rfl dX12_count_148 ?_
                    refine lv_goto (tgt := 155) hx hb dX12_count_151 (by decide) ?_
                    have hq := (Option.some.inj hf)
                    subst hq
                    exact z_iret S hG hS hlocks trivial hr dX12_count_155
                · have hf := zif_n c21 hf
                  by_cases c23 : x1 = 7
                  · have hf := zif_p c23 hf
                    refine lv_tableIn (x := x1) (off := 153) (tgt := 156) hx hb dX12_count_3 (by rw [c23]; decide) (by rw [c23]; decide) (by rw [c23]; decide) (by decide) ?_
                    refine lv_aload_n hx hb dX12_count_156 rfl (lv_at hl 1 rfl) ?_
                    refine z_get (c0 := 12) (i0 := 0) (k0 := 50) (T := TX12) (v := .int (zI σ 12 0 50)) S hG (hZ.2.1 (12, 0) (by decide)) rfl inlX12 (by decide) rfl zw_1352 rfl dX12_count_157 ?_
                    have hq := (Option.some.inj hf)
                    subst hq
                    exact z_iret S hG hS hlocks trivial hr dX12_count_160
                  · have hf := zif_n c23 hf
                    by_cases c24 : x1 = 8
                    · have hf := zif_p c24 hf
                      refine lv_tableIn (x := x1) (off := 158) (tgt := 161) hx hb dX12_count_3 (by rw [c24]; decide) (by rw [c24]; decide) (by rw [c24]; decide) (by decide) ?_
                      refine lv_aload_n hx hb dX12_count_161 rfl (lv_at hl 1 rfl) ?_
                      refine z_get (c0 := 12) (i0 := 0) (k0 := 43) (T := TX12) (v := .int (zI σ 12 0 43)) S hG (hZ.2.1 (12, 0) (by decide)) rfl inlX12 (by decide) rfl zw_1172 rfl dX12_count_162 ?_
                      have hq := (Option.some.inj hf)
                      subst hq
                      exact z_iret S hG hS hlocks trivial hr dX12_count_165
                    · have hf := zif_n c24 hf
                      by_cases c25 : x1 = 9
                      · have hf := zif_p c25 hf
                        refine lv_tableIn (x := x1) (off := 163) (tgt := 166) hx hb dX12_count_3 (by rw [c25]; decide) (by rw [c25]; decide) (by rw [c25]; decide) (by decide) ?_
                        refine lv_aload_n hx hb dX12_count_166 rfl (lv_at hl 1 rfl) ?_
                        refine z_get (c0 := 12) (i0 := 0) (k0 := 44) (T := TX12) (v := .int (zI σ 12 0 44)) S hG (hZ.2.1 (12, 0) (by decide)) rfl inlX12 (by decide) rfl zw_1173 rfl dX12_count_167 ?_
                        have hq := (Option.some.inj hf)
                        subst hq
                        exact z_iret S hG hS hlocks trivial hr dX12_count_170
                      · have hf := zif_n c25 hf
                        by_cases c26 : x1 = 10
                        · have hf := zif_p c26 hf
                          refine lv_tableIn (x := x1) (off := 168) (tgt := 171) hx hb dX12_count_3 (by rw [c26]; decide) (by rw [c26]; decide) (by rw [c26]; decide) (by decide) ?_
                          refine lv_aload_n hx hb dX12_count_171 rfl (lv_at hl 1 rfl) ?_
                          refine z_get (c0 := 12) (i0 := 0) (k0 := 15) (T := TX12) (v := .int (zI σ 12 0 15)) S hG (hZ.2.1 (12, 0) (by decide)) rfl inlX12 (by decide) rfl zw_1117 rfl dX12_count_172 ?_
                          have hq := (Option.some.inj hf)
                          subst hq
                          exact z_iret S hG hS hlocks trivial hr dX12_count_175
                        · have hf := zif_n c26 hf
                          by_cases c27 : x1 = 11
                          · have hf := zif_p c27 hf
                            refine lv_tableIn (x := x1) (off := 173) (tgt := 176) hx hb dX12_count_3 (by rw [c27]; decide) (by rw [c27]; decide) (by rw [c27]; decide) (by decide) ?_
                            refine lv_aload_n hx hb dX12_count_176 rfl (lv_at hl 1 rfl) ?_
                            refine z_get (c0 := 12) (i0 := 0) (k0 := 53) (T := TX12) (v := .int (zI σ 12 0 53)) S hG (hZ.2.1 (12, 0) (by decide)) rfl inlX12 (by decide) rfl zw_1461 rfl dX12_count_177 ?_
                            have hq := (Option.some.inj hf)
                            subst hq
                            exact z_iret S hG hS hlocks trivial hr dX12_count_180
                          · have hf := zif_n c27 hf
                            by_cases c28 : x1 = 12
                            · have hf := zif_p c28 hf
                              refine lv_tableIn (x := x1) (off := 178) (tgt := 181) hx hb dX12_count_3 (by rw [c28]; decide) (by rw [c28]; decide) (by rw [c28]; decide) (by decide) ?_
                              refine lv_aload_n hx hb dX12_count_181 rfl (lv_at hl 1 rfl) ?_
                              refine z_get (c0 := 12) (i0 := 0) (k0 := 52) (T := TX12) (v := .int (zI σ 12 0 52)) S hG (hZ.2.1 (12, 0) (by decide)) rfl inlX12 (by decide) rfl zw_1452 rfl dX12_count_182 ?_
                              have hq := (Option.some.inj hf)
                              subst hq
                              exact z_iret S hG hS hlocks trivial hr dX12_count_185
                            · have hf := zif_n c28 hf
                              by_cases c29 : x1 = 13
                              · have hf := zif_p c29 hf
                                refine lv_tableIn (x := x1) (off := 183) (tgt := 186) hx hb dX12_count_3 (by rw [c29]; decide) (by rw [c29]; decide) (by rw [c29]; decide) (by decide) ?_
                                refine lv_aload_n hx hb dX12_count_186 rfl (lv_at hl 1 rfl) ?_
                                refine z_get (c0 := 12) (i0 := 0) (k0 := 19) (T := TX12) (v := .int (zI σ 12 0 19)) S hG (hZ.2.1 (12, 0) (by decide)) rfl inlX12 (by decide) rfl zw_296 rfl dX12_count_187 ?_
                                have hq := (Option.some.inj hf)
                                subst hq
                                exact z_iret S hG hS hlocks trivial hr dX12_count_190
                              · have hf := zif_n c29 hf
                                by_cases c30 : x1 = 14
                                · have hf := zif_p c30 hf
                                  refine lv_tableIn (x := x1) (off := 188) (tgt := 191) hx hb dX12_count_3 (by rw [c30]; decide) (by rw [c30]; decide) (by rw [c30]; decide) (by decide) ?_
                                  refine lv_aload_n hx hb dX12_count_191 rfl (lv_at hl 1 rfl) ?_
                                  refine z_get (c0 := 12) (i0 := 0) (k0 := 51) (T := TX12) (v := .int (zI σ 12 0 51)) S hG (hZ.2.1 (12, 0) (by decide)) rfl inlX12 (by decide) rfl zw_1442 rfl dX12_count_192 ?_
                                  have hq := (Option.some.inj hf)
                                  subst hq
                                  exact z_iret S hG hS hlocks trivial hr dX12_count_195
                                · have hf := zif_n c30 hf
                                  have hout : x1.toInt < 0 ∨ 14 < x1.toInt := by
                                    rcases (show x1.toInt < 0 ∨ 14 < x1.toInt ∨ x1.toInt = 0 ∨ x1.toInt = 1 ∨ x1.toInt = 2 ∨ x1.toInt = 3 ∨ x1.toInt = 4 ∨ x1.toInt = 5 ∨ x1.toInt = 6 ∨ x1.toInt = 7 ∨ x1.toInt = 8 ∨ x1.toInt = 9 ∨ x1.toInt = 10 ∨ x1.toInt = 11 ∨ x1.toInt = 12 ∨ x1.toInt = 13 ∨ x1.toInt = 14 by omega) with h | h | h | h | h | h | h | h | h | h | h | h | h | h | h | h | h
                                    · exact Or.inl h
                                    · exact Or.inr h
                                    · exact absurd (Int32.toInt_inj.mp (h.trans (by decide : (0 : Int) = (0 : Int32).toInt))) c1
                                    · exact absurd (Int32.toInt_inj.mp (h.trans (by decide : (1 : Int) = (1 : Int32).toInt))) c2
                                    · exact absurd (Int32.toInt_inj.mp (h.trans (by decide : (2 : Int) = (2 : Int32).toInt))) c3
                                    · exact absurd (Int32.toInt_inj.mp (h.trans (by decide : (3 : Int) = (3 : Int32).toInt))) c4
                                    · exact absurd (Int32.toInt_inj.mp (h.trans (by decide : (4 : Int) = (4 : Int32).toInt))) c5
                                    · exact absurd (Int32.toInt_inj.mp (h.trans (by decide : (5 : Int) = (5 : Int32).toInt))) c20
                                    · exact absurd (Int32.toInt_inj.mp (h.trans (by decide : (6 : Int) = (6 : Int32).toInt))) c21
                                    · exact absurd (Int32.toInt_inj.mp (h.trans (by decide : (7 : Int) = (7 : Int32).toInt))) c23
                                    · exact absurd (Int32.toInt_inj.mp (h.trans (by decide : (8 : Int) = (8 : Int32).toInt))) c24
                                    · exact absurd (Int32.toInt_inj.mp (h.trans (by decide : (9 : Int) = (9 : Int32).toInt))) c25
                                    · exact absurd (Int32.toInt_inj.mp (h.trans (by decide : (10 : Int) = (10 : Int32).toInt))) c26
                                    · exact absurd (Int32.toInt_inj.mp (h.trans (by decide : (11 : Int) = (11 : Int32).toInt))) c27
                                    · exact absurd (Int32.toInt_inj.mp (h.trans (by decide : (12 : Int) = (12 : Int32).toInt))) c28
                                    · exact absurd (Int32.toInt_inj.mp (h.trans (by decide : (13 : Int) = (13 : Int32).toInt))) c29
                                    · exact absurd (Int32.toInt_inj.mp (h.trans (by decide : (14 : Int) = (14 : Int32).toInt))) c30
                                  refine lv_tableOut (x := x1) (tgt := 196) hx hb dX12_count_3 hout (by decide) ?_
                                  refine lv_iconst (v := (-1)) hx hb dX12_count_196 (by decide) ?_
                                  have hq := (Option.some.inj hf)
                                  subst hq
                                  exact z_iret S hG hS hlocks trivial hr dX12_count_197
  exact hK0 _ _ ls hG hS hl hf
