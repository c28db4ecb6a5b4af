set_option maxRecDepth 100000 in
set_option maxHeartbeats 4000000 in
theorem c_X8_stepsWithin (l : Launch) (D : va_G) (aC : Nat → ClassId) (zs : Nat × Nat) (A : Nat → Prop) (nl : zNL) (ad : Nat → Nat → Nat → Nat) (σ : zM) (x1 : Nat) (x2 : Int32) (x3 : Int32) (x4 : Int32) (r : Int32) (σ' : zM) (h_x1 : zin nl 7 x1) (hf : f_X8_stepsWithin σ x1 x2 x3 x4 = some (r, σ')) : Met l yX8_stepsWithin (Cond.code yX8_stepsWithin cX8_stepsWithin 8 (some .int) :: wsL_law) ({ frames := 3, cells := 0, slots := 0, locals := 76 } : Room) (zP D aC zs zfX A nl ad σ [.ref (ad 8 0 0), .ref (ad 7 x1 0), .int x2, .int x3, .int x4]) (zQ (some (.int r)) (fun t => zG D aC A nl ad σ' t t.heap ∧ True) A) 0 0 A := by
  refine Met.ofW (cc := cX8_stepsWithin) (maxL := 8) (ret := (some .int)) (by decide) rfl ?_
  intro p e s m args below meth c s₁ B hml hv
  obtain ⟨rfl, hG, hZ⟩ := hv
  have hx := B.exec
  have hb := B.bytes
  have hr := B.returns
  have hts : ∀ w ∈ wsL_law, w.before ([.ref (ad 8 0 0), .ref (ad 7 x1 0), .int x2, .int x3, .int x4] : List Value).toArray s = true := fun w h => (atoms_spec B.pre) w (List.mem_cons_of_mem _ h)
  have hown : s.vm.findClass RX8 = some m.cls := findClass_of_methodNamed B.named
  have hlocks := B.notSynchronized
  have S : zS p m c cX8_stepsWithin 8 s ([.ref (ad 8 0 0), .ref (ad 7 x1 0), .int x2, .int x3, .int x4] : List Value).toArray RX8 := ⟨hx, hb, hml, hown, hts⟩
  have hS : va_S A s.heap s.heap [] := va_S.rf
  have hl := lv_entry ([.ref (ad 8 0 0), .ref (ad 7 x1 0), .int x2, .int x3, .int x4]) (n := 8) (Nat.le_of_ble_eq_true rfl)
  rw [lg_entry_eq]
  generalize (lg_sl ([.ref (ad 8 0 0), .ref (ad 7 x1 0), .int x2, .int x3, .int x4]) ++ List.replicate (8 - (lg_sl ([.ref (ad 8 0 0), .ref (ad 7 x1 0), .int x2, .int x3, .int x4])).length) Slot.unset).toArray = ls at hl ⊢
  have hl : lv_has ls 8 [(0, .ref (ad 8 0 0)), (1, .ref (ad 7 x1 0)), (2, .int x2), (3, .int x3), (4, .int x4)] := hl
  generalize hargs : ([.ref (ad 8 0 0), .ref (ad 7 x1 0), .int x2, .int x3, .int x4] : List Value).toArray = args at S hts ⊢
  clear hargs
  have KJ113 : ∀ (y5b113 : Int32)  (σb113 : zM) (H : Heap) (locs : List Loc) (ls : Array Slot), zG D aC A nl ad σb113 s H → va_S A s.heap H locs → lv_has ls 8 [(0, .ref (ad 8 0 0)), (1, .ref (ad 7 x1 0)), (2, .int x2), (3, .int x3), (4, .int x4), (5, .int y5b113)] → (f_X8_stepsWithin_B113 σb113 x1 x2 x3 x4 y5b113) = some (r, σ') → zWk p l e ({ frames := 3, cells := 0, slots := 0, locals := 76 } : Room) s m args below meth c A (some (.int r)) (fun t => zG D aC A nl ad σ' t t.heap ∧ True) H locs (F0 m 113 ls []) := by
    intro y5b113  σb113 H locs ls hG hS hl hf
    unfold f_X8_stepsWithin_B113 at hf
    refine lv_aload_n hx hb dX8_stepsWithin_113 rfl (lv_at hl 0 rfl) ?_
    refine lv_aload_n hx hb dX8_stepsWithin_114 rfl (lv_at hl 1 rfl) ?_
    refine lv_iload_n hx hb dX8_stepsWithin_115 rfl (lv_at hl 3 rfl) ?_
    refine lv_iload hx hb dX8_stepsWithin_116 (lv_at hl 5 rfl) ?_
    refine lv_iload hx hb dX8_stepsWithin_118 (lv_at hl 4 rfl) ?_
    obtain ⟨q10, eq10, hf⟩ := zbi hf
    refine z_callV (n := 4) (rest := []) (st1 := [.int q10.1]) (c0 := 8) (i0 := 0) (hZ.2.1 (8, 0) (by decide)) (by rfl) S hG hS hZ (fun _ _ h => h) (c_X8_walk l D aC zs A nl ad σb113 x1 x3 y5b113 x4 q10.1 q10.2 h_x1 eq10) zw_922 zw_923 zw_924 zw_31 zw_925 (by decide +kernel) ⟨rfl, rfl⟩ ⟨(Nat.le_of_ble_eq_true rfl), (Nat.le_of_ble_eq_true rfl)⟩ hl.1 rfl (by rfl) (by rfl) (Nat.le_of_ble_eq_true rfl) dX8_stepsWithin_120 ⟨Nat.zero_le _, Nat.zero_le _⟩ (fun H locs hz11 hG hS => ?_)
    obtain ⟨hq1, hq2⟩ := Prod.mk.inj (Option.some.inj hf)
    subst hq1
    subst hq2
    exact z_iret S hG hS hlocks trivial hr dX8_stepsWithin_123
  have hK0 : ∀ (H : Heap) (locs : List Loc) (ls : Array Slot), zG D aC A nl ad σ s H → va_S A s.heap H locs → lv_has ls 8 [(0, .ref (ad 8 0 0)), (1, .ref (ad 7 x1 0)), (2, .int x2), (3, .int x3), (4, .int x4)] → f_X8_stepsWithin σ x1 x2 x3 x4 = some (r, σ') → zWk p l e ({ frames := 3, cells := 0, slots := 0, locals := 76 } : Room) s m args below meth c A (some (.int r)) (fun t => zG D aC A nl ad σ' t t.heap ∧ True) H locs (F0 m 0 ls []) := by
    intro H locs ls hG hS hl hf
    unfold f_X8_stepsWithin at hf
    refine lv_aload_n hx hb dX8_stepsWithin_0 rfl (lv_at hl 1 rfl) ?_
    refine lv_iload_n hx hb dX8_stepsWithin_1 rfl (lv_at hl 2 rfl) ?_
    obtain ⟨r1, er1, hf⟩ := zbi hf
    refine z_callV (n := 1) (rest := []) (st1 := [.int r1]) (c0 := 7) (i0 := x1) h_x1 (by rfl) S hG hS hZ (fun _ _ h => h) (c_X7_countOf l D aC zs A nl ad σ x1 x2 r1 h_x1 er1) zw_921 zw_873 zw_874 zw_783 zw_875 (by decide +kernel) ⟨rfl, rfl⟩ ⟨(Nat.le_of_ble_eq_true rfl), (Nat.le_of_ble_eq_true rfl)⟩ hl.1 rfl (by rfl) (by rfl) (Nat.le_of_ble_eq_true rfl) dX8_stepsWithin_2 ⟨Nat.zero_le _, Nat.zero_le _⟩ (fun H locs hz2 hG hS => ?_)
    refine lv_if_eq (tgt := 21) hx hb dX8_stepsWithin_5 (by decide) (fun c3 => ?_) (fun c3 => ?_)
    · have hf := zif_p c3 hf
      refine lv_iconst (v := (-1)) hx hb dX8_stepsWithin_21 (by decide) ?_
      obtain ⟨hq1, hq2⟩ := Prod.mk.inj (Option.some.inj hf)
      subst hq1
      subst hq2
      exact z_iret S hG hS hlocks trivial hr dX8_stepsWithin_22
    · have hf := zif_n c3 hf
      refine lv_aload_n hx hb dX8_stepsWithin_8 rfl (lv_at hl 1 rfl) ?_
      refine lv_iload_n hx hb dX8_stepsWithin_9 rfl (lv_at hl 3 rfl) ?_
      obtain ⟨r4, er4, hf⟩ := zbi hf
      refine z_callV (n := 1) (rest := []) (st1 := [.int r4]) (c0 := 7) (i0 := x1) h_x1 (by rfl) S hG hS hZ (fun _ _ h => h) (c_X7_countOf l D aC zs A nl ad σ x1 x3 r4 h_x1 er4) zw_921 zw_873 zw_874 zw_783 zw_875 (by decide +kernel) ⟨rfl, rfl⟩ ⟨(Nat.le_of_ble_eq_true rfl), (Nat.le_of_ble_eq_true rfl)⟩ hl.1 rfl (by rfl) (by rfl) (Nat.le_of_ble_eq_true rfl) dX8_stepsWithin_10 ⟨Nat.zero_le _, Nat.zero_le _⟩ (fun H locs hz5 hG hS => ?_)
      refine lv_if_eq (tgt := 21) hx hb dX8_stepsWithin_13 (by decide) (fun c6 => ?_) (fun c6 => ?_)
      · have hf := zif_p c6 hf
        refine lv_iconst (v := (-1)) hx hb dX8_stepsWithin_21 (by decide) ?_
        obtain ⟨hq1, hq2⟩ := Prod.mk.inj (Option.some.inj hf)
        subst hq1
        subst hq2
        exact z_iret S hG hS hlocks trivial hr dX8_stepsWithin_22
      · have hf := zif_n c6 hf
        refine lv_iload hx hb dX8_stepsWithin_16 (lv_at hl 4 rfl) ?_
        refine lv_if_ge (tgt := 23) hx hb dX8_stepsWithin_18 (by decide) (fun c7 => ?_) (fun c7 => ?_)
        · have hf := zif_p c7 hf
          refine lv_iload_n hx hb dX8_stepsWithin_23 rfl (lv_at hl 2 rfl) ?_
          refine lv_iload_n hx hb dX8_stepsWithin_24 rfl (lv_at hl 3 rfl) ?_
          refine lv_icmp_ne (tgt := 30) hx hb dX8_stepsWithin_25 (by decide) (fun c8 => ?_) (fun c8 => ?_)
          · have hf := zif_n c8 hf
            refine lv_iconst (v := 0) hx hb dX8_stepsWithin_30 (by decide) ?_
            refine lv_istore (lv' := [(5, .int 0), (0, .ref (ad 8 0 0)), (1, .ref (ad 7 x1 0)), (2, .int x2), (3, .int x3), (4, .int x4)]) hx hb dX8_stepsWithin_31 hl (by decide) rfl (fun ls hl => ?_)
            refine lv_iconst (v := 0) hx hb dX8_stepsWithin_33 (by decide) ?_
            refine lv_istore (lv' := [(6, .int 0), (5, .int 0), (0, .ref (ad 8 0 0)), (1, .ref (ad 7 x1 0)), (2, .int x2), (3, .int x3), (4, .int x4)]) hx hb dX8_stepsWithin_34 hl (by decide) rfl (fun ls hl => ?_)
            obtain ⟨t36, hw36, hfo36⟩ := zbi hf
            have KL36 : ∀ (n : Nat) (y5l36 : Int32) (y6l36 : Int32) (σl36 : zM) (H : Heap) (locs : List Loc) (ls : Array Slot), zG D aC A nl ad σl36 s H → va_S A s.heap H locs → lv_has ls 8 [(0, .ref (ad 8 0 0)), (1, .ref (ad 7 x1 0)), (2, .int x2), (3, .int x3), (4, .int x4), (5, .int y5l36), (6, .int y6l36)] → zwh (fun (q : (Int32 × Int32 × zM)) => f_X8_stepsWithin_L36 x1 x2 x3 x4 q.1 q.2.1 q.2.2) n (y5l36, y6l36, σl36) = some t36 → zWk p l e ({ frames := 3, cells := 0, slots := 0, locals := 76 } : Room) s m args below meth c A (some (.int r)) (fun t => zG D aC A nl ad σ' t t.heap ∧ True) H locs (F0 m 36 ls []) := by
              intro n
              induction n with
              | zero =>
                intro y5l36 y6l36 σl36 H locs ls hG hS hl hw
                exact (zwh_0 hw).elim
              | succ n ih36 =>
                intro y5l36 y6l36 σl36 H locs ls hG hS hl hw
                obtain ⟨rr36, hf, hk36⟩ := zwh_u hw
                have hf : f_X8_stepsWithin_L36 x1 x2 x3 x4 y5l36 y6l36 σl36 = some rr36 := hf
                unfold f_X8_stepsWithin_L36 at hf
                have KJ107_36 : ∀ (y5b107 : Int32) (y6b107 : Int32)  (σb107_36 : zM) (H : Heap) (locs : List Loc) (ls : Array Slot), zG D aC A nl ad σb107_36 s H → va_S A s.heap H locs → lv_has ls 8 [(0, .ref (ad 8 0 0)), (1, .ref (ad 7 x1 0)), (2, .int x2), (3, .int x3), (4, .int x4), (5, .int y5b107), (6, .int y6b107)] → (f_X8_stepsWithin_B107_36 σb107_36 x1 x2 x3 x4 y5b107 y6b107) = some rr36 → zWk p l e ({ frames := 3, cells := 0, slots := 0, locals := 76 } : Room) s m args below meth c A (some (.int r)) (fun t => zG D aC A nl ad σ' t t.heap ∧ True) H locs (F0 m 107 ls []) := by
                  intro y5b107 y6b107  σb107_36 H locs ls hG hS hl hf
                  unfold f_X8_stepsWithin_B107_36 at hf
                  refine lv_iinc (v := (y6b107 + 1)) (lv' := [(6, .int (y6b107 + 1)), (0, .ref (ad 8 0 0)), (1, .ref (ad 7 x1 0)), (2, .int x2), (3, .int x3), (4, .int x4), (5, .int y5b107)]) hx hb dX8_stepsWithin_107 hl (k := 6) rfl rfl (by decide) rfl (fun ls hl => ?_)
                  refine lv_goto (tgt := 36) hx hb dX8_stepsWithin_110 (by decide) ?_
                  cases hf
                  exact ih36 y5b107 (y6b107 + 1) σb107_36 H locs ls hG hS (lv_sub hl [1, 2, 3, 4, 5, 6, 0] rfl) hk36
                refine lv_iload hx hb dX8_stepsWithin_36 (lv_at hl 6 rfl) ?_
                refine lv_aload_n hx hb dX8_stepsWithin_38 rfl (lv_at hl 0 rfl) ?_
                refine z_get (c0 := 8) (i0 := 0) (k0 := 2) (T := TX8) (v := .ref (ad 8 0 3)) S hG (hZ.2.1 (8, 0) (by decide)) rfl inlX8 (by decide) rfl zw_190 rfl dX8_stepsWithin_39 ?_
                refine z_alen (c0 := 8) (i0 := 0) (k0 := 2) (n := 4) (v := 240) S hG (hZ.2.1 (8, 0) (by decide)) (by decide) rfl (by decide) (by rfl) dX8_stepsWithin_42 ?_
                refine lv_icmp_ge (tgt := 113) hx hb dX8_stepsWithin_43 (by decide) (fun c47 => ?_) (fun c47 => ?_)
                · have hf := zif_p c47 hf
                  cases hf
                  have hk36 : ((y5l36, σl36) : (Int32 × zM)) = t36 := hk36
                  have hf := hfo36
                  rw [← hk36] at hf
                  have hf : (f_X8_stepsWithin_B113 σl36 x1 x2 x3 x4 y5l36) = some (r, σ') := hf
                  exact KJ113 y5l36 σl36 H locs ls hG hS (lv_sub hl [0, 1, 2, 3, 4, 5] rfl) hf
                · have hf := zif_n c47 hf
                  refine lv_aload_n hx hb dX8_stepsWithin_46 rfl (lv_at hl 1 rfl) ?_
                  refine lv_iload hx hb dX8_stepsWithin_47 (lv_at hl 6 rfl) ?_
                  obtain ⟨r48, er48, hf⟩ := zbi hf
                  refine z_callV (n := 1) (rest := []) (st1 := [.int r48]) (c0 := 7) (i0 := x1) h_x1 (by rfl) S hG hS hZ (fun _ _ h => h) (c_X7_thingAt l D aC zs A nl ad σl36 x1 y6l36 r48 h_x1 er48) zw_881 zw_830 zw_831 zw_783 zw_832 (by decide +kernel) ⟨rfl, rfl⟩ ⟨(Nat.le_of_ble_eq_true rfl), (Nat.le_of_ble_eq_true rfl)⟩ hl.1 rfl (by rfl) (by rfl) (Nat.le_of_ble_eq_true rfl) dX8_stepsWithin_49 ⟨Nat.zero_le _, Nat.zero_le _⟩ (fun H locs hz49 hG hS => ?_)
                  refine lv_iload_n hx hb dX8_stepsWithin_52 rfl (lv_at hl 2 rfl) ?_
                  have Kv52 : ∀ (v52 : Int32) (ls : Array Slot), lv_has ls 8 [(0, .ref (ad 8 0 0)), (1, .ref (ad 7 x1 0)), (2, .int x2), (3, .int x3), (4, .int x4), (5, .int y5l36), (6, .int y6l36)] → ((zix y6l36 240).bind fun i71 => zlt (zsA σl36 8 0 2 i71 (if v52 = 0 then (-1) else 0 : Int32)) fun σ72 => if v52 = 0 then (f_X8_stepsWithin_B107_36 σ72 x1 x2 x3 x4 y5l36 y6l36) else (if 160 ≤ y5l36 then (f_X8_stepsWithin_B107_36 σ72 x1 x2 x3 x4 y5l36 y6l36) else ((zix y5l36 160).bind fun i75 => zlt (zsA σ72 8 0 1 i75 y6l36) fun σ76 => f_X8_stepsWithin_B107_36 σ76 x1 x2 x3 x4 (y5l36 + 1) y6l36))) = some rr36 → zWk p l e ({ frames := 3, cells := 0, slots := 0, locals := 76 } : Room) s m args below meth c A (some (.int r)) (fun t => zG D aC A nl ad σ' t t.heap ∧ True) H locs (F0 m 61 ls [.int v52]) := by
                    intro v52 ls hl hf
                    refine lv_istore (lv' := [(7, .int v52), (0, .ref (ad 8 0 0)), (1, .ref (ad 7 x1 0)), (2, .int x2), (3, .int x3), (4, .int x4), (5, .int y5l36), (6, .int y6l36)]) hx hb dX8_stepsWithin_61 hl (by decide) rfl (fun ls hl => ?_)
                    refine lv_aload_n hx hb dX8_stepsWithin_63 rfl (lv_at hl 1 rfl) ?_
                    refine z_get (c0 := 8) (i0 := 0) (k0 := 2) (T := TX8) (v := .ref (ad 8 0 3)) S hG (hZ.2.1 (8, 0) (by decide)) rfl inlX8 (by decide) rfl zw_190 rfl dX8_stepsWithin_64 ?_
                    refine lv_iload hx hb dX8_stepsWithin_67 (lv_at hl 7 rfl) ?_
                    refine lv_iload hx hb dX8_stepsWithin_69 (lv_at hl 0 rfl) ?_
                    have Kv70 : ∀ (v70 : Int32) (ls : Array Slot), lv_has ls 8 [(7, .int v52), (0, .ref (ad 8 0 0)), (1, .ref (ad 7 x1 0)), (2, .int x2), (3, .int x3), (4, .int x4), (5, .int y5l36), (6, .int y6l36)] → ((zix y6l36 240).bind fun i77 => zlt (zsA σl36 8 0 2 i77 v70) fun σ78 => if v52 = 0 then (f_X8_stepsWithin_B107_36 σ78 x1 x2 x3 x4 y5l36 y6l36) else (if 160 ≤ y5l36 then (f_X8_stepsWithin_B107_36 σ78 x1 x2 x3 x4 y5l36 y6l36) else ((zix y5l36 160).bind fun i81 => zlt (zsA σ78 8 0 1 i81 y6l36) fun σ82 => f_X8_stepsWithin_B107_36 σ82 x1 x2 x3 x4 (y5l36 + 1) y6l36))) = some rr36 → zWk p l e ({ frames := 3, cells := 0, slots := 0, locals := 76 } : Room) s m args below meth c A (some (.int r)) (fun t => zG D aC A nl ad σ' t t.heap ∧ True) H locs (F0 m 79 ls [.int v70, .int y6l36, .ref (ad 8 0 3)]) := by
                      intro v70 ls hl hf
                      obtain ⟨i77, hi77, hf⟩ := zbi hf
                      refine z_iast (c0 := 8) (i0 := 0) (k0 := 2) S hG hS (hZ.2.1 (8, 0) (by decide)) (by decide) rfl hi77 dX8_stepsWithin_79 (fun H locs hG hS => ?_)
                      obtain ⟨σ78, eσ78, hf⟩ := zlt_s hf
                      rw [← eσ78] at hG
                      refine lv_iload hx hb dX8_stepsWithin_80 (lv_at hl 0 rfl) ?_
                      refine lv_if_eq (tgt := 107) hx hb dX8_stepsWithin_82 (by decide) (fun c79 => ?_) (fun c79 => ?_)
                      · have hf := zif_p c79 hf
                        exact KJ107_36 y5l36 y6l36 σ78 H locs ls hG hS (lv_sub hl [1, 2, 3, 4, 5, 6, 7] rfl) hf
                      · have hf := zif_n c79 hf
                        refine lv_iload hx hb dX8_stepsWithin_85 (lv_at hl 6 rfl) ?_
                        refine lv_aload_n hx hb dX8_stepsWithin_87 rfl (lv_at hl 1 rfl) ?_
                        refine z_get (c0 := 8) (i0 := 0) (k0 := 1) (T := TX8) (v := .ref (ad 8 0 2)) S hG (hZ.2.1 (8, 0) (by decide)) rfl inlX8 (by decide) rfl zw_189 rfl dX8_stepsWithin_88 ?_
                        refine z_alen (c0 := 8) (i0 := 0) (k0 := 1) (n := 4) (v := 160) S hG (hZ.2.1 (8, 0) (by decide)) (by decide) rfl (by decide) (by rfl) dX8_stepsWithin_91 ?_
                        refine lv_icmp_ge (tgt := 107) hx hb dX8_stepsWithin_92 (by decide) (fun c80 => ?_) (fun c80 => ?_)
                        · have hf := zif_p c80 hf
                          exact KJ107_36 y5l36 y6l36 σ78 H locs ls hG hS (lv_sub hl [1, 2, 3, 4, 5, 6, 7] rfl) hf
                        · have hf := zif_n c80 hf
                          refine lv_aload_n hx hb dX8_stepsWithin_95 rfl (lv_at hl 1 rfl) ?_
                          refine z_get (c0 := 8) (i0 := 0) (k0 := 1) (T := TX8) (v := .ref (ad 8 0 2)) S hG (hZ.2.1 (8, 0) (by decide)) rfl inlX8 (by decide) rfl zw_189 rfl dX8_stepsWithin_96 ?_
                          refine lv_iload hx hb dX8_stepsWithin_99 (lv_at hl 6 rfl) ?_
                          refine lv_iload hx hb dX8_stepsWithin_101 (lv_at hl 7 rfl) ?_
                          obtain ⟨i81, hi81, hf⟩ := zbi hf
                          refine z_iast (c0 := 8) (i0 := 0) (k0 := 1) S hG hS (hZ.2.1 (8, 0) (by decide)) (by decide) rfl hi81 dX8_stepsWithin_103 (fun H locs hG hS => ?_)
                          obtain ⟨σ82, eσ82, hf⟩ := zlt_s hf
                          rw [← eσ82] at hG
                          refine lv_iinc (v := (y5l36 + 1)) (lv' := [(5, .int (y5l36 + 1)), (7, .int v52), (0, .ref (ad 8 0 0)), (1, .ref (ad 7 x1 0)), (2, .int x2), (3, .int x3), (4, .int x4), (6, .int y6l36)]) hx hb dX8_stepsWithin_104 hl (k := 6) rfl rfl (by decide) rfl (fun ls hl => ?_)
                          exact KJ107_36 (y5l36 + 1) y6l36 σ82 H locs ls hG hS (lv_sub hl [2, 3, 4, 5, 6, 0, 7] rfl) hf
                    refine lv_if_eq (tgt := 78) hx hb dX8_stepsWithin_71 (by decide) (fun c69 => ?_) (fun c69 => ?_)
                    · rw [if_pos c69] at hf
                      refine lv_iconst (v := (-1)) hx hb dX8_stepsWithin_78 (by decide) ?_
                      exact Kv70 _ ls hl hf
                    · rw [if_neg c69] at hf
                      refine lv_iconst (v := 0) hx hb dX8_stepsWithin_74 (by decide) ?_
                      refine lv_goto (tgt := 79) hx hb dX8_stepsWithin_75 (by decide) ?_
                      exact Kv70 _ ls hl hf
                  refine lv_icmp_ne (tgt := 60) hx hb dX8_stepsWithin_53 (by decide) (fun c51 => ?_) (fun c51 => ?_)
                  · rw [if_neg c51] at hf
                    refine lv_iconst (v := 0) hx hb dX8_stepsWithin_60 (by decide) ?_
                    exact Kv52 _ ls hl hf
                  · rw [if_pos c51] at hf
                    refine lv_iconst (v := 1) hx hb dX8_stepsWithin_56 (by decide) ?_
                    refine lv_goto (tgt := 61) hx hb dX8_stepsWithin_57 (by decide) ?_
                    exact Kv52 _ ls hl hf
            exact KL36 zFu 0 0 σ H locs ls hG hS (lv_sub hl [2, 3, 4, 5, 6, 1, 0] rfl) hw36
          · have hf := zif_p c8 hf
            refine lv_iconst (v := 0) hx hb dX8_stepsWithin_28 (by decide) ?_
            obtain ⟨hq1, hq2⟩ := Prod.mk.inj (Option.some.inj hf)
            subst hq1
            subst hq2
            exact z_iret S hG hS hlocks trivial hr dX8_stepsWithin_29
        · have hf := zif_n c7 hf
          refine lv_iconst (v := (-1)) hx hb dX8_stepsWithin_21 (by decide) ?_
          obtain ⟨hq1, hq2⟩ := Prod.mk.inj (Option.some.inj hf)
          subst hq1
          subst hq2
          exact z_iret S hG hS hlocks trivial hr dX8_stepsWithin_22
  exact hK0 _ _ ls hG hS hl hf
set_option maxRecDepth 100000 in
set_option maxHeartbeats 4000000 in
theorem c_X8_measure (l : Launch) (D : va_G) (aC : Nat → ClassId) (zs : Nat × Nat) (A : Nat → Prop) (nl : zNL) (ad : Nat → Nat → Nat → Nat) (σ : zM) (x1 : Int32) (x2 : Nat) (x3 : Nat) (x4 : Int32) (r : Int32) (h_x2 : zin nl 7 x2) (h_x3 : zin nl 0 x3) (hf : f_X8_measure σ x1 x2 x3 x4 = some r) : Met l yX8_measure (Cond.code yX8_measure cX8_measure 5 (some .int) :: wsL_law) ({ frames := 3, cells := 0, slots := 0, locals := 71 } : Room) (zP D aC zs zfX A nl ad σ [.ref (ad 8 0 0), .int x1, .ref (ad 7 x2 0), .ref (ad 0 x3 0), .int x4]) (zQ (some (.int r)) (fun t => zG D aC A nl ad σ t t.heap ∧ True) A) 0 0 A := by
  refine Met.ofW (cc := cX8_measure) (maxL := 5) (ret := (some .int)) (by decide) rfl ?_
  intro p e s m args below meth c s₁ B hml hv
  obtain ⟨rfl, hG, hZ⟩ := hv
  have hx := B.exec
  have hb := B.bytes
  have hr := B.returns
  have hts : ∀ w ∈ wsL_law, w.before ([.ref (ad 8 0 0), .int x1, .ref (ad 7 x2 0), .ref (ad 0 x3 0), .int x4] : List Value).toArray s = true := fun w h => (atoms_spec B.pre) w (List.mem_cons_of_mem _ h)
  have hown : s.vm.findClass RX8 = some m.cls := findClass_of_methodNamed B.named
  have hlocks := B.notSynchronized
  have S : zS p m c cX8_measure 5 s ([.ref (ad 8 0 0), .int x1, .ref (ad 7 x2 0), .ref (ad 0 x3 0), .int x4] : List Value).toArray RX8 := ⟨hx, hb, hml, hown, hts⟩
  have hS : va_S A s.heap s.heap [] := va_S.rf
  have hl := lv_entry ([.ref (ad 8 0 0), .int x1, .ref (ad 7 x2 0), .ref (ad 0 x3 0), .int x4]) (n := 5) (Nat.le_of_ble_eq_true rfl)
  rw [lg_entry_eq]
  generalize (lg_sl ([.ref (ad 8 0 0), .int x1, .ref (ad 7 x2 0), .ref (ad 0 x3 0), .int x4]) ++ List.replicate (5 - (lg_sl ([.ref (ad 8 0 0), .int x1, .ref (ad 7 x2 0), .ref (ad 0 x3 0), .int x4])).length) Slot.unset).toArray = ls at hl ⊢
  have hl : lv_has ls 5 [(0, .ref (ad 8 0 0)), (1, .int x1), (2, .ref (ad 7 x2 0)), (3, .ref (ad 0 x3 0)), (4, .int x4)] := hl
  generalize hargs : ([.ref (ad 8 0 0), .int x1, .ref (ad 7 x2 0), .ref (ad 0 x3 0), .int x4] : List Value).toArray = args at S hts ⊢
  clear hargs
  have KJ120 : ∀ (t0b120 : Int32)   (H : Heap) (locs : List Loc) (ls : Array Slot), zG D aC A nl ad σ s H → va_S A s.heap H locs → lv_has ls 5 [(0, .ref (ad 8 0 0)), (1, .int x1), (2, .ref (ad 7 x2 0)), (3, .ref (ad 0 x3 0)), (4, .int x4)] → (f_X8_measure_B120 σ x1 x2 x3 x4 t0b120) = some r → zWk p l e ({ frames := 3, cells := 0, slots := 0, locals := 71 } : Room) s m args below meth c A (some (.int r)) (fun t => zG D aC A nl ad σ t t.heap ∧ True) H locs (F0 m 120 ls [.int t0b120]) := by
    intro t0b120   H locs ls hG hS hl hf
    unfold f_X8_measure_B120 at hf
    refine lv_aload_n hx hb dX8_measure_120 rfl (lv_at hl 3 rfl) ?_
    refine lv_iconst (v := 4) hx hb dX8_measure_121 (by decide) ?_
    obtain ⟨r24, er24, hf⟩ := zbi hf
    refine z_callV (n := 1) (rest := [.int t0b120]) (st1 := [.int r24, .int t0b120]) (c0 := 0) (i0 := x3) h_x3 (by rfl) S hG hS hZ (fun _ _ h => h) (c_X0_term l D aC zs A nl ad σ x3 4 r24 h_x3 er24) zw_1028 zw_703 zw_704 zw_76 zw_705 (by decide +kernel) ⟨rfl, rfl⟩ ⟨(Nat.le_of_ble_eq_true rfl), (Nat.le_of_ble_eq_true rfl)⟩ hl.1 rfl (by rfl) (by rfl) (Nat.le_of_ble_eq_true rfl) dX8_measure_122 ⟨Nat.zero_le _, Nat.zero_le _⟩ (fun H locs hz25 hG hS => ?_)
    refine lv_icmp_le (tgt := 132) hx hb dX8_measure_125 (by decide) (fun c26 => ?_) (fun c26 => ?_)
    · have hf := zif_p c26 hf
      refine lv_iconst (v := 0) hx hb dX8_measure_132 (by decide) ?_
      have hq := (Option.some.inj hf)
      subst hq
      exact z_iret S hG hS hlocks trivial hr dX8_measure_133
    · have hf := zif_n c26 hf
      refine lv_iconst (v := 1) hx hb dX8_measure_128 (by decide) ?_
      refine lv_goto (tgt := 133) hx hb dX8_measure_129 (by decide) ?_
      have hq := (Option.some.inj hf)
      subst hq
      exact z_iret S hG hS hlocks trivial hr dX8_measure_133
  have hK0 : ∀ (H : Heap) (locs : List Loc) (ls : Array Slot), zG D aC A nl ad σ s H → va_S A s.heap H locs → lv_has ls 5 [(0, .ref (ad 8 0 0)), (1, .int x1), (2, .ref (ad 7 x2 0)), (3, .ref (ad 0 x3 0)), (4, .int x4)] → f_X8_measure σ x1 x2 x3 x4 = some r → zWk p l e ({ frames := 3, cells := 0, slots := 0, locals := 71 } : Room) s m args below meth c A (some (.int r)) (fun t => zG D aC A nl ad σ t t.heap ∧ True) H locs (F0 m 0 ls []) := by
    intro H locs ls hG hS hl hf
    unfold f_X8_measure at hf
    refine lv_iload_n hx hb dX8_measure_0 rfl (lv_at hl 1 rfl) ?_
    by_cases c3 : x1 = 7
    · have hf := zif_p c3 hf
      refine lv_lookup (x := x1) (off := 72) (tgt := 73) hx hb dX8_measure_1 (by decide) (by rw [c3]; decide) (by decide) ?_
      refine lv_aload_n hx hb dX8_measure_73 rfl (lv_at hl 2 rfl) ?_
      refine lv_aload_n hx hb dX8_measure_74 rfl (lv_at hl 3 rfl) ?_
      obtain ⟨r4, er4, hf⟩ := zbi hf
      refine z_callV (n := 1) (rest := []) (st1 := [.int r4]) (c0 := 7) (i0 := x2) h_x2 (by rfl) S hG hS hZ (fun _ _ h => h) (c_X7_costBy l D aC zs A nl ad σ x2 x3 r4 h_x2 h_x3 er4) zw_993 zw_951 zw_952 zw_783 zw_953 (by decide +kernel) ⟨rfl, rfl⟩ ⟨(Nat.le_of_ble_eq_true rfl), (Nat.le_of_ble_eq_true rfl)⟩ hl.1 rfl (by rfl) (by rfl) (Nat.le_of_ble_eq_true rfl) dX8_measure_75 ⟨Nat.zero_le _, Nat.zero_le _⟩ (fun H locs hz5 hG hS => ?_)
      have hq := (Option.some.inj hf)
      subst hq
      exact z_iret S hG hS hlocks trivial hr dX8_measure_78
    · have hf := zif_n c3 hf
      by_cases c6 : x1 = 29
      · have hf := zif_p c6 hf
        refine lv_lookup (x := x1) (off := 67) (tgt := 68) hx hb dX8_measure_1 (by decide) (by rw [c6]; decide) (by decide) ?_
        refine lv_aload_n hx hb dX8_measure_68 rfl (lv_at hl 2 rfl) ?_
        obtain ⟨r7, er7, hf⟩ := zbi hf
        refine z_callV (n := 0) (rest := []) (st1 := [.int r7]) (c0 := 7) (i0 := x2) h_x2 (by rfl) S hG hS hZ (fun _ _ h => h) (c_X7_allCells l D aC zs A nl ad σ x2 r7 h_x2 er7) zw_1008 zw_1009 zw_1010 zw_783 zw_1011 (by decide +kernel) ⟨rfl, rfl⟩ ⟨(Nat.le_of_ble_eq_true rfl), (Nat.le_of_ble_eq_true rfl)⟩ hl.1 rfl (by rfl) (by rfl) (Nat.le_of_ble_eq_true rfl) dX8_measure_69 ⟨Nat.zero_le _, Nat.zero_le _⟩ (fun H locs hz8 hG hS => ?_)
        have hq := (Option.some.inj hf)
        subst hq
        exact z_iret S hG hS hlocks trivial hr dX8_measure_72
      · have hf := zif_n c6 hf
        by_cases c9 : x1 = 30
        · have hf := zif_p c9 hf
          refine lv_lookup (x := x1) (off := 78) (tgt := 79) hx hb dX8_measure_1 (by decide) (by rw [c9]; decide) (by decide) ?_
          refine lv_aload_n hx hb dX8_measure_79 rfl (lv_at hl 2 rfl) ?_
          refine lv_bipush (v := 13) hx hb dX8_measure_80 (by decide) ?_
          obtain ⟨r10, er10, hf⟩ := zbi hf
          refine z_callV (n := 1) (rest := []) (st1 := [.int r10]) (c0 := 7) (i0 := x2) h_x2 (by rfl) S hG hS hZ (fun _ _ h => h) (c_X7_countOf l D aC zs A nl ad σ x2 13 r10 h_x2 er10) zw_921 zw_873 zw_874 zw_783 zw_875 (by decide +kernel) ⟨rfl, rfl⟩ ⟨(Nat.le_of_ble_eq_true rfl), (Nat.le_of_ble_eq_true rfl)⟩ hl.1 rfl (by rfl) (by rfl) (Nat.le_of_ble_eq_true rfl) dX8_measure_82 ⟨Nat.zero_le _, Nat.zero_le _⟩ (fun H locs hz11 hG hS => ?_)
          have hq := (Option.some.inj hf)
          subst hq
          exact z_iret S hG hS hlocks trivial hr dX8_measure_85
        · have hf := zif_n c9 hf
          by_cases c12 : x1 = 31
          · have hf := zif_p c12 hf
            refine lv_lookup (x := x1) (off := 85) (tgt := 86) hx hb dX8_measure_1 (by decide) (by rw [c12]; decide) (by decide) ?_
            refine lv_aload_n hx hb dX8_measure_86 rfl (lv_at hl 2 rfl) ?_
            refine lv_bipush (v := 14) hx hb dX8_measure_87 (by decide) ?_
            obtain ⟨r13, er13, hf⟩ := zbi hf
            refine z_callV (n := 1) (rest := []) (st1 := [.int r13]) (c0 := 7) (i0 := x2) h_x2 (by rfl) S hG hS hZ (fun _ _ h => h) (c_X7_countOf l D aC zs A nl ad σ x2 14 r13 h_x2 er13) zw_921 zw_873 zw_874 zw_783 zw_875 (by decide +kernel) ⟨rfl, rfl⟩ ⟨(Nat.le_of_ble_eq_true rfl), (Nat.le_of_ble_eq_true rfl)⟩ hl.1 rfl (by rfl) (by rfl) (Nat.le_of_ble_eq_true rfl) dX8_measure_89 ⟨Nat.zero_le _, Nat.zero_le _⟩ (fun H locs hz14 hG hS => ?_)
            have hq := (Option.some.inj hf)
            subst hq
            exact z_iret S hG hS hlocks trivial hr dX8_measure_92
          · have hf := zif_n c12 hf
            by_cases c15 : x1 = 32
            · have hf := zif_p c15 hf
              refine lv_lookup (x := x1) (off := 92) (tgt := 93) hx hb dX8_measure_1 (by decide) (by rw [c15]; decide) (by decide) ?_
              refine lv_aload_n hx hb dX8_measure_93 rfl (lv_at hl 2 rfl) ?_
              obtain ⟨r16, er16, hf⟩ := zbi hf
              refine z_callV (n := 0) (rest := []) (st1 := [.int r16]) (c0 := 7) (i0 := x2) h_x2 (by rfl) S hG hS hZ (fun _ _ h => h) (c_X7_roomsWithCells l D aC zs A nl ad σ x2 r16 h_x2 er16) zw_1012 zw_1013 zw_1014 zw_783 zw_1015 (by decide +kernel) ⟨rfl, rfl⟩ ⟨(Nat.le_of_ble_eq_true rfl), (Nat.le_of_ble_eq_true rfl)⟩ hl.1 rfl (by rfl) (by rfl) (Nat.le_of_ble_eq_true rfl) dX8_measure_94 ⟨Nat.zero_le _, Nat.zero_le _⟩ (fun H locs hz17 hG hS => ?_)
              have hq := (Option.some.inj hf)
              subst hq
              exact z_iret S hG hS hlocks trivial hr dX8_measure_97
            · have hf := zif_n c15 hf
              by_cases c18 : x1 = 33
              · have hf := zif_p c18 hf
                refine lv_lookup (x := x1) (off := 97) (tgt := 98) hx hb dX8_measure_1 (by decide) (by rw [c18]; decide) (by decide) ?_
                refine lv_aload_n hx hb dX8_measure_98 rfl (lv_at hl 0 rfl) ?_
                refine lv_aload_n hx hb dX8_measure_99 rfl (lv_at hl 2 rfl) ?_
                obtain ⟨r19, er19, hf⟩ := zbi hf
                refine z_callV (n := 1) (rest := []) (st1 := [.int r19]) (c0 := 8) (i0 := 0) (hZ.2.1 (8, 0) (by decide)) (by rfl) S hG hS hZ (fun _ _ h => h) (c_X8_darkRooms l D aC zs A nl ad σ x2 r19 h_x2 er19) zw_1016 zw_1017 zw_1018 zw_31 zw_1019 (by decide +kernel) ⟨rfl, rfl⟩ ⟨(Nat.le_of_ble_eq_true rfl), (Nat.le_of_ble_eq_true rfl)⟩ hl.1 rfl (by rfl) (by rfl) (Nat.le_of_ble_eq_true rfl) dX8_measure_100 ⟨Nat.zero_le _, Nat.zero_le _⟩ (fun H locs hz20 hG hS => ?_)
                have hq := (Option.some.inj hf)
                subst hq
                exact z_iret S hG hS hlocks trivial hr dX8_measure_103
              · have hf := zif_n c18 hf
                by_cases c21 : x1 = 34
                · have hf := zif_p c21 hf
                  refine lv_lookup (x := x1) (off := 103) (tgt := 104) hx hb dX8_measure_1 (by decide) (by rw [c21]; decide) (by decide) ?_
                  refine lv_aload_n hx hb dX8_measure_104 rfl (lv_at hl 2 rfl) ?_
                  refine z_callV (n := 0) (rest := []) (st1 := [.int (f_X7_isHandedIn σ x2)]) (c0 := 7) (i0 := x2) h_x2 (by rfl) S hG hS hZ (fun _ _ h => h) (c_X7_isHandedIn l D aC zs A nl ad σ x2 (f_X7_isHandedIn σ x2) h_x2 rfl) zw_1027 zw_811 zw_812 zw_783 zw_813 (by decide +kernel) ⟨rfl, rfl⟩ ⟨(Nat.le_of_ble_eq_true rfl), (Nat.le_of_ble_eq_true rfl)⟩ hl.1 rfl (by rfl) (by rfl) (Nat.le_of_ble_eq_true rfl) dX8_measure_105 ⟨Nat.zero_le _, Nat.zero_le _⟩ (fun H locs hz22 hG hS => ?_)
                  refine lv_if_eq (tgt := 118) hx hb dX8_measure_108 (by decide) (fun c23 => ?_) (fun c23 => ?_)
                  · have hf := zif_p c23 hf
                    refine lv_iload hx hb dX8_measure_118 (lv_at hl 4 rfl) ?_
                    exact KJ120 x4 H locs ls hG hS (lv_sub hl [0, 1, 2, 3, 4] rfl) hf
                  · have hf := zif_n c23 hf
                    refine lv_aload_n hx hb dX8_measure_111 rfl (lv_at hl 2 rfl) ?_
                    refine z_get (c0 := 7) (i0 := x2) (k0 := 1) (T := TX7) (v := .int (zI σ 7 x2 1)) S hG h_x2 rfl inlX7 (by decide) rfl zw_1007 rfl dX8_measure_112 ?_
                    refine lv_goto (tgt := 120) hx hb dX8_measure_115 (by decide) ?_
                    exact KJ120 (zI σ 7 x2 1) H locs ls hG hS (lv_sub hl [0, 1, 2, 3, 4] rfl) hf
                · have hf := zif_n c21 hf
                  refine lv_lookup (x := x1) (off := 133) (tgt := 134) hx hb dX8_measure_1 (by decide) ((lv_osw c3 rfl).trans ((lv_osw c6 rfl).trans ((lv_osw c9 rfl).trans ((lv_osw c12 rfl).trans ((lv_osw c15 rfl).trans ((lv_osw c18 rfl).trans ((lv_osw c21 rfl).trans (rfl)))))))) (by decide) ?_
                  refine lv_aload_n hx hb dX8_measure_134 rfl (lv_at hl 2 rfl) ?_
                  obtain ⟨r1, er1, hf⟩ := zbi hf
                  refine z_callV (n := 0) (rest := []) (st1 := [.int r1]) (c0 := 7) (i0 := x2) h_x2 (by rfl) S hG hS hZ (fun _ _ h => h) (c_X7_storeysWithCells l D aC zs A nl ad σ x2 r1 h_x2 er1) zw_1029 zw_1030 zw_1031 zw_783 zw_1032 (by decide +kernel) ⟨rfl, rfl⟩ ⟨(Nat.le_of_ble_eq_true rfl), (Nat.le_of_ble_eq_true rfl)⟩ hl.1 rfl (by rfl) (by rfl) (Nat.le_of_ble_eq_true rfl) dX8_measure_135 ⟨Nat.zero_le _, Nat.zero_le _⟩ (fun H locs hz2 hG hS => ?_)
                  have hq := (Option.some.inj hf)
                  subst hq
                  exact z_iret S hG hS hlocks trivial hr dX8_measure_138
  exact hK0 _ _ ls hG hS hl hf
set_option maxRecDepth 100000 in
set_option maxHeartbeats 4000000 in
theorem c_X8_throwsOut (l : Launch) (D : va_G) (aC : Nat → ClassId) (zs : Nat × Nat) (A : Nat → Prop) (nl : zNL) (ad : Nat → Nat → Nat → Nat) (σ : zM) (x1 : Nat) (x2 : Nat) (x3 : Int32) (x4 : Int32) (x5 : Int32) (r : Int32) (h_x1 : zin nl 7 x1) (h_x2 : zin nl 0 x2) (hf : f_X8_throwsOut σ x1 x2 x3 x4 x5 = some r) : Met l yX8_throwsOut (Cond.code yX8_throwsOut cX8_throwsOut 12 (some .boolean) :: wsL_law) ({ frames := 4, cells := 0, slots := 0, locals := 95 } : Room) (zP D aC zs zfX A nl ad σ [.ref (ad 8 0 0), .ref (ad 7 x1 0), .ref (ad 0 x2 0), .int x3, .int x4, .int x5]) (zQ (some (.int r)) (fun t => zG D aC A nl ad σ t t.heap ∧ (r = 0 ∨ r = 1)) A) 0 0 A := by
  refine Met.ofW (cc := cX8_throwsOut) (maxL := 12) (ret := (some .boolean)) (by decide) rfl ?_
  intro p e s m args below meth c s₁ B hml hv
  obtain ⟨rfl, hG, hZ⟩ := hv
  have hx := B.exec
  have hb := B.bytes
  have hr := B.returns
  have hts : ∀ w ∈ wsL_law, w.before ([.ref (ad 8 0 0), .ref (ad 7 x1 0), .ref (ad 0 x2 0), .int x3, .int x4, .int x5] : List Value).toArray s = true := fun w h => (atoms_spec B.pre) w (List.mem_cons_of_mem _ h)
  have hown : s.vm.findClass RX8 = some m.cls := findClass_of_methodNamed B.named
  have hlocks := B.notSynchronized
  have S : zS p m c cX8_throwsOut 12 s ([.ref (ad 8 0 0), .ref (ad 7 x1 0), .ref (ad 0 x2 0), .int x3, .int x4, .int x5] : List Value).toArray RX8 := ⟨hx, hb, hml, hown, hts⟩
  have hS : va_S A s.heap s.heap [] := va_S.rf
  have hl := lv_entry ([.ref (ad 8 0 0), .ref (ad 7 x1 0), .ref (ad 0 x2 0), .int x3, .int x4, .int x5]) (n := 12) (Nat.le_of_ble_eq_true rfl)
  rw [lg_entry_eq]
  generalize (lg_sl ([.ref (ad 8 0 0), .ref (ad 7 x1 0), .ref (ad 0 x2 0), .int x3, .int x4, .int x5]) ++ List.replicate (12 - (lg_sl ([.ref (ad 8 0 0), .ref (ad 7 x1 0), .ref (ad 0 x2 0), .int x3, .int x4, .int x5])).length) Slot.unset).toArray = ls at hl ⊢
  have hl : lv_has ls 12 [(0, .ref (ad 8 0 0)), (1, .ref (ad 7 x1 0)), (2, .ref (ad 0 x2 0)), (3, .int x3), (4, .int x4), (5, .int x5)] := hl
  generalize hargs : ([.ref (ad 8 0 0), .ref (ad 7 x1 0), .ref (ad 0 x2 0), .int x3, .int x4, .int x5] : List Value).toArray = args at S hts ⊢
  clear hargs
  have KJ142 : ∀ (y6b142 : Int64)   (H : Heap) (locs : List Loc) (ls : Array Slot), zG D aC A nl ad σ s H → va_S A s.heap H locs → lv_has ls 12 [(0, .ref (ad 8 0 0)), (1, .ref (ad 7 x1 0)), (2, .ref (ad 0 x2 0)), (3, .int x3), (4, .int x4), (5, .int x5), (6, .long y6b142)] → (f_X8_throwsOut_B142 σ x1 x2 x3 x4 x5 y6b142) = some r → zWk p l e ({ frames := 4, cells := 0, slots := 0, locals := 95 } : Room) s m args below meth c A (some (.int r)) (fun t => zG D aC A nl ad σ t t.heap ∧ (r = 0 ∨ r = 1)) H locs (F0 m 142 ls []) := by
    intro y6b142   H locs ls hG hS hl hf
    unfold f_X8_throwsOut_B142 at hf
    refine lv_lload hx hb dX8_throwsOut_142 (lv_at hl 6 rfl) ?_
    refine lv_lconst (v := 1) hx hb dX8_throwsOut_144 (by decide) ?_
    refine lv_land hx hb dX8_throwsOut_145 ?_
    refine lv_lconst (v := 0) hx hb dX8_throwsOut_146 (by decide) ?_
    refine W.lcmp hx hb dX8_throwsOut_147 ?_
    refine lv_if_eq (tgt := 155) hx hb dX8_throwsOut_148 (by decide) (fun c2 => ?_) (fun c2 => ?_)
    · have hf := zif_p ((lg_cmp_eq (y6b142 &&& 1) 0).mp c2) hf
      refine lv_iconst (v := 0) hx hb dX8_throwsOut_155 (by decide) ?_
      have hq := (Option.some.inj hf)
      subst hq
      exact z_zret S hG hS hlocks (Or.inl rfl) hr dX8_throwsOut_156
    · have hf := zif_n (fun h => c2 ((lg_cmp_eq (y6b142 &&& 1) 0).mpr h)) hf
      refine lv_iconst (v := 1) hx hb dX8_throwsOut_151 (by decide) ?_
      refine lv_goto (tgt := 156) hx hb dX8_throwsOut_152 (by decide) ?_
      have hq := (Option.some.inj hf)
      subst hq
      exact z_zret S hG hS hlocks (Or.inr rfl) hr dX8_throwsOut_156
  have hK0 : ∀ (H : Heap) (locs : List Loc) (ls : Array Slot), zG D aC A nl ad σ s H → va_S A s.heap H locs → lv_has ls 12 [(0, .ref (ad 8 0 0)), (1, .ref (ad 7 x1 0)), (2, .ref (ad 0 x2 0)), (3, .int x3), (4, .int x4), (5, .int x5)] → f_X8_throwsOut σ x1 x2 x3 x4 x5 = some r → zWk p l e ({ frames := 4, cells := 0, slots := 0, locals := 95 } : Room) s m args below meth c A (some (.int r)) (fun t => zG D aC A nl ad σ t t.heap ∧ (r = 0 ∨ r = 1)) H locs (F0 m 0 ls []) := by
    intro H locs ls hG hS hl hf
    unfold f_X8_throwsOut at hf
    refine lv_lconst (v := 0) hx hb dX8_throwsOut_0 (by decide) ?_
    refine lv_lstore (lv' := [(6, .long 0), (0, .ref (ad 8 0 0)), (1, .ref (ad 7 x1 0)), (2, .ref (ad 0 x2 0)), (3, .int x3), (4, .int x4), (5, .int x5)]) hx hb dX8_throwsOut_1 hl (by decide) rfl (fun ls hl => ?_)
    refine lv_iconst (v := 0) hx hb dX8_throwsOut_3 (by decide) ?_
    refine lv_iload_n hx hb dX8_throwsOut_4 rfl (lv_at hl 4 rfl) ?_
    refine z_mmax (v := (zmax 0 x3)) S hl zw_880 zw_90 zw_91 zw_92 (Nat.le_of_ble_eq_true rfl) (Nat.le_of_ble_eq_true rfl) (Nat.le_of_ble_eq_true rfl) (Nat.zero_le _) (Nat.zero_le _) rfl dX8_throwsOut_5 ?_
    refine lv_istore (lv' := [(8, .int (zmax 0 x3)), (6, .long 0), (0, .ref (ad 8 0 0)), (1, .ref (ad 7 x1 0)), (2, .ref (ad 0 x2 0)), (3, .int x3), (4, .int x4), (5, .int x5)]) hx hb dX8_throwsOut_8 hl (by decide) rfl (fun ls hl => ?_)
    obtain ⟨t10, hw10, hfo10⟩ := zbi hf
    have KL10 : ∀ (n : Nat) (y6l10 : Int64) (y8l10 : Int32) (H : Heap) (locs : List Loc) (ls : Array Slot), zG D aC A nl ad σ s H → va_S A s.heap H locs → lv_has ls 12 [(0, .ref (ad 8 0 0)), (1, .ref (ad 7 x1 0)), (2, .ref (ad 0 x2 0)), (3, .int x3), (4, .int x4), (5, .int x5), (6, .long y6l10), (8, .int y8l10)] → zwh (fun (q : (Int64 × Int32)) => f_X8_throwsOut_L10 σ x1 x2 x3 x4 x5 q.1 q.2) n (y6l10, y8l10) = some t10 → zWk p l e ({ frames := 4, cells := 0, slots := 0, locals := 95 } : Room) s m args below meth c A (some (.int r)) (fun t => zG D aC A nl ad σ t t.heap ∧ (r = 0 ∨ r = 1)) H locs (F0 m 10 ls []) := by
      intro n
      induction n with
      | zero =>
        intro y6l10 y8l10 H locs ls hG hS hl hw
        exact (zwh_0 hw).elim
      | succ n ih10 =>
        intro y6l10 y8l10 H locs ls hG hS hl hw
        obtain ⟨rr10, hf, hk10⟩ := zwh_u hw
        have hf : f_X8_throwsOut_L10 σ x1 x2 x3 x4 x5 y6l10 y8l10 = some rr10 := hf
        unfold f_X8_throwsOut_L10 at hf
        have KJ136_10 : ∀ (y6b136 : Int64) (y8b136 : Int32)   (H : Heap) (locs : List Loc) (ls : Array Slot), zG D aC A nl ad σ s H → va_S A s.heap H locs → lv_has ls 12 [(0, .ref (ad 8 0 0)), (1, .ref (ad 7 x1 0)), (2, .ref (ad 0 x2 0)), (3, .int x3), (4, .int x4), (5, .int x5), (6, .long y6b136), (8, .int y8b136)] → (f_X8_throwsOut_B136_10 σ x1 x2 x3 x4 x5 y6b136 y8b136) = some rr10 → zWk p l e ({ frames := 4, cells := 0, slots := 0, locals := 95 } : Room) s m args below meth c A (some (.int r)) (fun t => zG D aC A nl ad σ t t.heap ∧ (r = 0 ∨ r = 1)) H locs (F0 m 136 ls []) := by
          intro y6b136 y8b136   H locs ls hG hS hl hf
          unfold f_X8_throwsOut_B136_10 at hf
          refine lv_iinc (v := (y8b136 + 1)) (lv' := [(8, .int (y8b136 + 1)), (0, .ref (ad 8 0 0)), (1, .ref (ad 7 x1 0)), (2, .ref (ad 0 x2 0)), (3, .int x3), (4, .int x4), (5, .int x5), (6, .long y6b136)]) hx hb dX8_throwsOut_136 hl (k := 7) rfl rfl (by decide) rfl (fun ls hl => ?_)
          refine lv_goto (tgt := 10) hx hb dX8_throwsOut_139 (by decide) ?_
          cases hf
          exact ih10 y6b136 (y8b136 + 1) H locs ls hG hS (lv_sub hl [1, 2, 3, 4, 5, 6, 7, 0] rfl) hk10
        refine lv_iload hx hb dX8_throwsOut_10 (lv_at hl 7 rfl) ?_
        refine lv_iload hx hb dX8_throwsOut_12 (lv_at hl 4 rfl) ?_
        refine lv_icmp_ge (tgt := 142) hx hb dX8_throwsOut_14 (by decide) (fun c17 => ?_) (fun c17 => ?_)
        · have hf := zif_p c17 hf
          cases hf
          have hk10 : (y6l10 : Int64) = t10 := hk10
          have hf := hfo10
          rw [← hk10] at hf
          have hf : (f_X8_throwsOut_B142 σ x1 x2 x3 x4 x5 y6l10) = some r := hf
          exact KJ142 y6l10 H locs ls hG hS (lv_sub hl [0, 1, 2, 3, 4, 5, 6] rfl) hf
        · have hf := zif_n c17 hf
          refine lv_iload hx hb dX8_throwsOut_17 (lv_at hl 7 rfl) ?_
          refine lv_aload_n hx hb dX8_throwsOut_19 rfl (lv_at hl 2 rfl) ?_
          refine z_get (c0 := 0) (i0 := x2) (k0 := 4) (T := TX0) (v := .ref (ad 0 x2 5)) S hG h_x2 rfl inlX0 (by decide) rfl zw_998 rfl dX8_throwsOut_20 ?_
          refine z_alen (c0 := 0) (i0 := x2) (k0 := 4) (n := 4) (v := (nI (zln 0 x2 4))) S hG h_x2 (by decide) rfl (by decide) rfl dX8_throwsOut_23 ?_
          refine lv_icmp_ge (tgt := 142) hx hb dX8_throwsOut_24 (by decide) (fun c18 => ?_) (fun c18 => ?_)
          · have hf := zif_p c18 hf
            cases hf
            have hk10 : (y6l10 : Int64) = t10 := hk10
            have hf := hfo10
            rw [← hk10] at hf
            have hf : (f_X8_throwsOut_B142 σ x1 x2 x3 x4 x5 y6l10) = some r := hf
            exact KJ142 y6l10 H locs ls hG hS (lv_sub hl [0, 1, 2, 3, 4, 5, 6] rfl) hf
          · have hf := zif_n c18 hf
            refine lv_aload_n hx hb dX8_throwsOut_27 rfl (lv_at hl 2 rfl) ?_
            refine z_get (c0 := 0) (i0 := x2) (k0 := 4) (T := TX0) (v := .ref (ad 0 x2 5)) S hG h_x2 rfl inlX0 (by decide) rfl zw_998 rfl dX8_throwsOut_28 ?_
            refine lv_iload hx hb dX8_throwsOut_31 (lv_at hl 7 rfl) ?_
            obtain ⟨i19, hi19, hf⟩ := zbi hf
            refine z_iald (c0 := 0) (i0 := x2) (k0 := 4) S hG h_x2 (by decide) rfl hi19 dX8_throwsOut_33 ?_
            refine lv_istore (lv' := [(9, .int (zA σ 0 x2 4 i19)), (0, .ref (ad 8 0 0)), (1, .ref (ad 7 x1 0)), (2, .ref (ad 0 x2 0)), (3, .int x3), (4, .int x4), (5, .int x5), (6, .long y6l10), (8, .int y8l10)]) hx hb dX8_throwsOut_34 hl (by decide) rfl (fun ls hl => ?_)
            refine lv_iload hx hb dX8_throwsOut_36 (lv_at hl 0 rfl) ?_
            refine lv_bipush (v := (-3)) hx hb dX8_throwsOut_38 (by decide) ?_
            refine lv_icmp_ne (tgt := 52) hx hb dX8_throwsOut_40 (by decide) (fun c20 => ?_) (fun c20 => ?_)
            · have hf := zif_n c20 hf
              refine lv_iload hx hb dX8_throwsOut_52 (lv_at hl 0 rfl) ?_
              refine lv_if_ge (tgt := 98) hx hb dX8_throwsOut_54 (by decide) (fun c21 => ?_) (fun c21 => ?_)
              · have hf := zif_p c21 hf
                refine lv_aload_n hx hb dX8_throwsOut_98 rfl (lv_at hl 1 rfl) ?_
                refine lv_iload hx hb dX8_throwsOut_99 (lv_at hl 0 rfl) ?_
                refine z_callS (n := 1) (rest := [.ref (ad 8 0 0)]) (st1 := [.int (f_X0_subjectOf (zA σ 0 x2 4 i19)), .ref (ad 8 0 0)]) S hG hS hZ (fun _ _ h => h) (c_X0_subjectOf l D aC zs A nl ad σ (zA σ 0 x2 4 i19) (f_X0_subjectOf (zA σ 0 x2 4 i19)) rfl) zw_1000 zw_1001 zw_76 zw_1002 (by decide +kernel) ⟨rfl, rfl⟩ ⟨(Nat.le_of_ble_eq_true rfl), (Nat.le_of_ble_eq_true rfl)⟩ hl.1 rfl (by rfl) (by rfl) (Nat.le_of_ble_eq_true rfl) dX8_throwsOut_101 ⟨Nat.zero_le _, Nat.zero_le _⟩ (fun H locs hz22 hG hS => ?_)
                refine lv_aload_n hx hb dX8_throwsOut_104 rfl (lv_at hl 2 rfl) ?_
                refine lv_aload_n hx hb dX8_throwsOut_105 rfl (lv_at hl 3 rfl) ?_
                refine lv_iload hx hb dX8_throwsOut_106 (lv_at hl 6 rfl) ?_
                obtain ⟨r23, er23, hf⟩ := zbi hf
                refine z_callV (n := 4) (rest := []) (st1 := [.int r23]) (c0 := 8) (i0 := 0) (hZ.2.1 (8, 0) (by decide)) (by rfl) S hG hS hZ (fun _ _ h => h) (c_X8_measure l D aC zs A nl ad σ (f_X0_subjectOf (zA σ 0 x2 4 i19)) x1 x2 x5 r23 h_x1 h_x2 er23) zw_1003 zw_1004 zw_1005 zw_31 zw_1006 (by decide +kernel) ⟨rfl, rfl⟩ ⟨(Nat.le_of_ble_eq_true rfl), (Nat.le_of_ble_eq_true rfl)⟩ hl.1 rfl (by rfl) (by rfl) (Nat.le_of_ble_eq_true rfl) dX8_throwsOut_108 ⟨Nat.zero_le _, Nat.zero_le _⟩ (fun H locs hz24 hG hS => ?_)
                refine lv_istore (lv' := [(10, .int r23), (9, .int (zA σ 0 x2 4 i19)), (0, .ref (ad 8 0 0)), (1, .ref (ad 7 x1 0)), (2, .ref (ad 0 x2 0)), (3, .int x3), (4, .int x4), (5, .int x5), (6, .long y6l10), (8, .int y8l10)]) hx hb dX8_throwsOut_111 hl (by decide) rfl (fun ls hl => ?_)
                refine lv_lload hx hb dX8_throwsOut_113 (lv_at hl 8 rfl) ?_
                refine lv_iconst (v := 1) hx hb dX8_throwsOut_115 (by decide) ?_
                refine lv_lshl (v := (zlshl y6l10 1)) hx hb dX8_throwsOut_116 rfl ?_
                refine lv_iload hx hb dX8_throwsOut_117 (lv_at hl 1 rfl) ?_
                refine lv_iload hx hb dX8_throwsOut_119 (lv_at hl 0 rfl) ?_
                refine z_callS (n := 2) (rest := [.long (zlshl y6l10 1)]) (st1 := [.int (f_X0_holds (zA σ 0 x2 4 i19) r23), .long (zlshl y6l10 1)]) S hG hS hZ (fun _ _ h => h) (c_X0_holds l D aC zs A nl ad σ (zA σ 0 x2 4 i19) r23 (f_X0_holds (zA σ 0 x2 4 i19) r23) rfl) zw_1033 zw_1034 zw_76 zw_1035 (by decide +kernel) ⟨rfl, rfl⟩ ⟨(Nat.le_of_ble_eq_true rfl), (Nat.le_of_ble_eq_true rfl)⟩ hl.1 rfl (by rfl) (by rfl) (Nat.le_of_ble_eq_true rfl) dX8_throwsOut_121 ⟨Nat.zero_le _, Nat.zero_le _⟩ (fun H locs hz25 hG hS => ?_)
                have Kv28 : ∀ (v28 : Int32) (ls : Array Slot), lv_has ls 12 [(10, .int r23), (9, .int (zA σ 0 x2 4 i19)), (0, .ref (ad 8 0 0)), (1, .ref (ad 7 x1 0)), (2, .ref (ad 0 x2 0)), (3, .int x3), (4, .int x4), (5, .int x5), (6, .long y6l10), (8, .int y8l10)] → (f_X8_throwsOut_B136_10 σ x1 x2 x3 x4 x5 ((zlshl y6l10 1) ||| v28.toInt64) y8l10) = some rr10 → zWk p l e ({ frames := 4, cells := 0, slots := 0, locals := 95 } : Room) s m args below meth c A (some (.int r)) (fun t => zG D aC A nl ad σ t t.heap ∧ (r = 0 ∨ r = 1)) H locs (F0 m 132 ls [.int v28, .long (zlshl y6l10 1)]) := by
                  intro v28 ls hl hf
                  refine lv_i2l (v := v28.toInt64) hx hb dX8_throwsOut_132 rfl ?_
                  refine lv_lor hx hb dX8_throwsOut_133 ?_
                  refine lv_lstore (lv' := [(6, .long ((zlshl y6l10 1) ||| v28.toInt64)), (10, .int r23), (9, .int (zA σ 0 x2 4 i19)), (0, .ref (ad 8 0 0)), (1, .ref (ad 7 x1 0)), (2, .ref (ad 0 x2 0)), (3, .int x3), (4, .int x4), (5, .int x5), (8, .int y8l10)]) hx hb dX8_throwsOut_134 hl (by decide) rfl (fun ls hl => ?_)
                  exact KJ136_10 ((zlshl y6l10 1) ||| v28.toInt64) y8l10 H locs ls hG hS (lv_sub hl [3, 4, 5, 6, 7, 8, 0, 9] rfl) hf
                refine lv_if_eq (tgt := 131) hx hb dX8_throwsOut_124 (by decide) (fun c27 => ?_) (fun c27 => ?_)
                · rw [if_pos c27] at hf
                  refine lv_iconst (v := 0) hx hb dX8_throwsOut_131 (by decide) ?_
                  exact Kv28 _ ls hl hf
                · rw [if_neg c27] at hf
                  refine lv_iconst (v := 1) hx hb dX8_throwsOut_127 (by decide) ?_
                  refine lv_goto (tgt := 132) hx hb dX8_throwsOut_128 (by decide) ?_
                  exact Kv28 _ ls hl hf
              · have hf := zif_n c21 hf
                refine lv_lload hx hb dX8_throwsOut_57 (lv_at hl 7 rfl) ?_
                refine lv_lconst (v := 1) hx hb dX8_throwsOut_59 (by decide) ?_
                refine lv_land hx hb dX8_throwsOut_60 ?_
                refine lv_lstore (lv' := [(10, .long (y6l10 &&& 1)), (9, .int (zA σ 0 x2 4 i19)), (0, .ref (ad 8 0 0)), (1, .ref (ad 7 x1 0)), (2, .ref (ad 0 x2 0)), (3, .int x3), (4, .int x4), (5, .int x5), (6, .long y6l10), (8, .int y8l10)]) hx hb dX8_throwsOut_61 hl (by decide) rfl (fun ls hl => ?_)
                refine lv_lload hx hb dX8_throwsOut_63 (lv_at hl 8 rfl) ?_
                refine lv_iconst (v := 1) hx hb dX8_throwsOut_65 (by decide) ?_
                refine lv_lushr (v := (zlushr y6l10 1)) hx hb dX8_throwsOut_66 rfl ?_
                refine lv_lstore (lv' := [(6, .long (zlushr y6l10 1)), (10, .long (y6l10 &&& 1)), (9, .int (zA σ 0 x2 4 i19)), (0, .ref (ad 8 0 0)), (1, .ref (ad 7 x1 0)), (2, .ref (ad 0 x2 0)), (3, .int x3), (4, .int x4), (5, .int x5), (8, .int y8l10)]) hx hb dX8_throwsOut_67 hl (by decide) rfl (fun ls hl => ?_)
                refine lv_iload hx hb dX8_throwsOut_69 (lv_at hl 2 rfl) ?_
                refine lv_bipush (v := (-2)) hx hb dX8_throwsOut_71 (by decide) ?_
                have Kv31 : ∀ (v31 : Int64) (ls : Array Slot), lv_has ls 12 [(6, .long (zlushr y6l10 1)), (10, .long (y6l10 &&& 1)), (9, .int (zA σ 0 x2 4 i19)), (0, .ref (ad 8 0 0)), (1, .ref (ad 7 x1 0)), (2, .ref (ad 0 x2 0)), (3, .int x3), (4, .int x4), (5, .int x5), (8, .int y8l10)] → (f_X8_throwsOut_B136_10 σ x1 x2 x3 x4 x5 v31 y8l10) = some rr10 → zWk p l e ({ frames := 4, cells := 0, slots := 0, locals := 95 } : Room) s m args below meth c A (some (.int r)) (fun t => zG D aC A nl ad σ t t.heap ∧ (r = 0 ∨ r = 1)) H locs (F0 m 93 ls [.long v31]) := by
                  intro v31 ls hl hf
                  refine lv_lstore (lv' := [(6, .long v31), (10, .long (y6l10 &&& 1)), (9, .int (zA σ 0 x2 4 i19)), (0, .ref (ad 8 0 0)), (1, .ref (ad 7 x1 0)), (2, .ref (ad 0 x2 0)), (3, .int x3), (4, .int x4), (5, .int x5), (8, .int y8l10)]) hx hb dX8_throwsOut_93 hl (by decide) rfl (fun ls hl => ?_)
                  refine lv_goto (tgt := 136) hx hb dX8_throwsOut_95 (by decide) ?_
                  exact KJ136_10 v31 y8l10 H locs ls hG hS (lv_sub hl [3, 4, 5, 6, 7, 8, 0, 9] rfl) hf
                refine lv_icmp_ne (tgt := 84) hx hb dX8_throwsOut_73 (by decide) (fun c30 => ?_) (fun c30 => ?_)
                · rw [if_neg c30] at hf
                  refine lv_lload hx hb dX8_throwsOut_84 (lv_at hl 0 rfl) ?_
                  refine lv_lload hx hb dX8_throwsOut_86 (lv_at hl 1 rfl) ?_
                  refine lv_ldc2 (v := (-2)) hx hb hown (hts _ zw_999) dX8_throwsOut_88 ?_
                  refine lv_lor hx hb dX8_throwsOut_91 ?_
                  refine lv_land hx hb dX8_throwsOut_92 ?_
                  exact Kv31 _ ls hl hf
                · rw [if_pos c30] at hf
                  refine lv_lload hx hb dX8_throwsOut_76 (lv_at hl 0 rfl) ?_
                  refine lv_lload hx hb dX8_throwsOut_78 (lv_at hl 1 rfl) ?_
                  refine lv_lor hx hb dX8_throwsOut_80 ?_
                  refine lv_goto (tgt := 93) hx hb dX8_throwsOut_81 (by decide) ?_
                  exact Kv31 _ ls hl hf
            · have hf := zif_p c20 hf
              refine lv_lload hx hb dX8_throwsOut_43 (lv_at hl 7 rfl) ?_
              refine lv_lconst (v := 1) hx hb dX8_throwsOut_45 (by decide) ?_
              refine lv_lxor hx hb dX8_throwsOut_46 ?_
              refine lv_lstore (lv' := [(6, .long (y6l10 ^^^ 1)), (9, .int (zA σ 0 x2 4 i19)), (0, .ref (ad 8 0 0)), (1, .ref (ad 7 x1 0)), (2, .ref (ad 0 x2 0)), (3, .int x3), (4, .int x4), (5, .int x5), (8, .int y8l10)]) hx hb dX8_throwsOut_47 hl (by decide) rfl (fun ls hl => ?_)
              refine lv_goto (tgt := 136) hx hb dX8_throwsOut_49 (by decide) ?_
              exact KJ136_10 (y6l10 ^^^ 1) y8l10 H locs ls hG hS (lv_sub hl [2, 3, 4, 5, 6, 7, 0, 8] rfl) hf
    exact KL10 zFu 0 (zmax 0 x3) H locs ls hG hS (lv_sub hl [2, 3, 4, 5, 6, 7, 1, 0] rfl) hw10
  exact hK0 _ _ ls hG hS hl hf
set_option maxRecDepth 100000 in
set_option maxHeartbeats 4000000 in
theorem c_X8_breaks (l : Launch) (D : va_G) (aC : Nat → ClassId) (zs : Nat × Nat) (A : Nat → Prop) (nl : zNL) (ad : Nat → Nat → Nat → Nat) (σ : zM) (x1 : Nat) (x2 : Nat) (x3 : Int32) (x4 : Int32) (r : Int32) (σ' : zM) (h_x1 : zin nl 7 x1) (h_x2 : zin nl 0 x2) (hf : f_X8_breaks σ x1 x2 x3 x4 = some (r, σ')) : Met l yX8_breaks (Cond.code yX8_breaks cX8_breaks 8 (some .boolean) :: wsL_law) ({ frames := 5, cells := 0, slots := 0, locals := 126 } : Room) (zP D aC zs zfX A nl ad σ [.ref (ad 8 0 0), .ref (ad 7 x1 0), .ref (ad 0 x2 0), .int x3, .int x4]) (zQ (some (.int r)) (fun t => zG D aC A nl ad σ' t t.heap ∧ (r = 0 ∨ r = 1)) A) 0 0 A := by
  refine Met.ofW (cc := cX8_breaks) (maxL := 8) (ret := (some .boolean)) (by decide) rfl ?_
  intro p e s m args below meth c s₁ B hml hv
  obtain ⟨rfl, hG, hZ⟩ := hv
  have hx := B.exec
  have hb := B.bytes
  have hr := B.returns
  have hts : ∀ w ∈ wsL_law, w.before ([.ref (ad 8 0 0), .ref (ad 7 x1 0), .ref (ad 0 x2 0), .int x3, .int x4] : List Value).toArray s = true := fun w h => (atoms_spec B.pre) w (List.mem_cons_of_mem _ h)
  have hown : s.vm.findClass RX8 = some m.cls := findClass_of_methodNamed B.named
  have hlocks := B.notSynchronized
  have S : zS p m c cX8_breaks 8 s ([.ref (ad 8 0 0), .ref (ad 7 x1 0), .ref (ad 0 x2 0), .int x3, .int x4] : List Value).toArray RX8 := ⟨hx, hb, hml, hown, hts⟩
  have hS : va_S A s.heap s.heap [] := va_S.rf
  have hl := lv_entry ([.ref (ad 8 0 0), .ref (ad 7 x1 0), .ref (ad 0 x2 0), .int x3, .int x4]) (n := 8) (Nat.le_of_ble_eq_true rfl)
  rw [lg_entry_eq]
  generalize (lg_sl ([.ref (ad 8 0 0), .ref (ad 7 x1 0), .ref (ad 0 x2 0), .int x3, .int x4]) ++ List.replicate (8 - (lg_sl ([.ref (ad 8 0 0), .ref (ad 7 x1 0), .ref (ad 0 x2 0), .int x3, .int x4])).length) Slot.unset).toArray = ls at hl ⊢
  have hl : lv_has ls 8 [(0, .ref (ad 8 0 0)), (1, .ref (ad 7 x1 0)), (2, .ref (ad 0 x2 0)), (3, .int x3), (4, .int x4)] := hl
  generalize hargs : ([.ref (ad 8 0 0), .ref (ad 7 x1 0), .ref (ad 0 x2 0), .int x3, .int x4] : List Value).toArray = args at S hts ⊢
  clear hargs
  have KJ152 : ∀ (σb152 : zM) (H : Heap) (locs : List Loc) (ls : Array Slot), zG D aC A nl ad σb152 s H → va_S A s.heap H locs → lv_has ls 8 [(0, .ref (ad 8 0 0)), (1, .ref (ad 7 x1 0)), (2, .ref (ad 0 x2 0)), (3, .int x3), (4, .int x4)] → (f_X8_breaks_B152 σb152 x1 x2 x3 x4) = some (r, σ') → zWk p l e ({ frames := 5, cells := 0, slots := 0, locals := 126 } : Room) s m args below meth c A (some (.int r)) (fun t => zG D aC A nl ad σ' t t.heap ∧ (r = 0 ∨ r = 1)) H locs (F0 m 152 ls []) := by
    intro   σb152 H locs ls hG hS hl hf
    unfold f_X8_breaks_B152 at hf
    refine lv_iconst (v := 1) hx hb dX8_breaks_152 (by decide) ?_
    refine lv_goto (tgt := 157) hx hb dX8_breaks_153 (by decide) ?_
    obtain ⟨hq1, hq2⟩ := Prod.mk.inj (Option.some.inj hf)
    subst hq1
    subst hq2
    exact z_zret S hG hS hlocks (Or.inr rfl) hr dX8_breaks_157
  have hK0 : ∀ (H : Heap) (locs : List Loc) (ls : Array Slot), zG D aC A nl ad σ s H → va_S A s.heap H locs → lv_has ls 8 [(0, .ref (ad 8 0 0)), (1, .ref (ad 7 x1 0)), (2, .ref (ad 0 x2 0)), (3, .int x3), (4, .int x4)] → f_X8_breaks σ x1 x2 x3 x4 = some (r, σ') → zWk p l e ({ frames := 5, cells := 0, slots := 0, locals := 126 } : Room) s m args below meth c A (some (.int r)) (fun t => zG D aC A nl ad σ' t t.heap ∧ (r = 0 ∨ r = 1)) H locs (F0 m 0 ls []) := by
    intro H locs ls hG hS hl hf
    unfold f_X8_breaks at hf
    refine lv_iload_n hx hb dX8_breaks_0 rfl (lv_at hl 3 rfl) ?_
    refine lv_if_lt (tgt := 40) hx hb dX8_breaks_1 (by decide) (fun c1 => ?_) (fun c1 => ?_)
    · have hf := zif_p c1 hf
      refine lv_iconst (v := 0) hx hb dX8_breaks_40 (by decide) ?_
      obtain ⟨hq1, hq2⟩ := Prod.mk.inj (Option.some.inj hf)
      subst hq1
      subst hq2
      exact z_zret S hG hS hlocks (Or.inl rfl) hr dX8_breaks_41
    · have hf := zif_n c1 hf
      refine lv_iload_n hx hb dX8_breaks_4 rfl (lv_at hl 3 rfl) ?_
      refine lv_aload_n hx hb dX8_breaks_5 rfl (lv_at hl 2 rfl) ?_
      refine z_get (c0 := 0) (i0 := x2) (k0 := 0) (T := TX0) (v := .ref (ad 0 x2 1)) S hG h_x2 rfl inlX0 (by decide) rfl zw_987 rfl dX8_breaks_6 ?_
      refine z_alen (c0 := 0) (i0 := x2) (k0 := 0) (n := 4) (v := (nI (zln 0 x2 0))) S hG h_x2 (by decide) rfl (by decide) rfl dX8_breaks_9 ?_
      refine lv_icmp_ge (tgt := 40) hx hb dX8_breaks_10 (by decide) (fun c2 => ?_) (fun c2 => ?_)
      · have hf := zif_p c2 hf
        refine lv_iconst (v := 0) hx hb dX8_breaks_40 (by decide) ?_
        obtain ⟨hq1, hq2⟩ := Prod.mk.inj (Option.some.inj hf)
        subst hq1
        subst hq2
        exact z_zret S hG hS hlocks (Or.inl rfl) hr dX8_breaks_41
      · have hf := zif_n c2 hf
        refine lv_iload_n hx hb dX8_breaks_13 rfl (lv_at hl 3 rfl) ?_
        refine lv_aload_n hx hb dX8_breaks_14 rfl (lv_at hl 2 rfl) ?_
        refine z_get (c0 := 0) (i0 := x2) (k0 := 1) (T := TX0) (v := .ref (ad 0 x2 2)) S hG h_x2 rfl inlX0 (by decide) rfl zw_988 rfl dX8_breaks_15 ?_
        refine z_alen (c0 := 0) (i0 := x2) (k0 := 1) (n := 4) (v := (nI (zln 0 x2 1))) S hG h_x2 (by decide) rfl (by decide) rfl dX8_breaks_18 ?_
        refine lv_icmp_ge (tgt := 40) hx hb dX8_breaks_19 (by decide) (fun c3 => ?_) (fun c3 => ?_)
        · have hf := zif_p c3 hf
          refine lv_iconst (v := 0) hx hb dX8_breaks_40 (by decide) ?_
          obtain ⟨hq1, hq2⟩ := Prod.mk.inj (Option.some.inj hf)
          subst hq1
          subst hq2
          exact z_zret S hG hS hlocks (Or.inl rfl) hr dX8_breaks_41
        · have hf := zif_n c3 hf
          refine lv_iload_n hx hb dX8_breaks_22 rfl (lv_at hl 3 rfl) ?_
          refine lv_aload_n hx hb dX8_breaks_23 rfl (lv_at hl 2 rfl) ?_
          refine z_get (c0 := 0) (i0 := x2) (k0 := 2) (T := TX0) (v := .ref (ad 0 x2 3)) S hG h_x2 rfl inlX0 (by decide) rfl zw_989 rfl dX8_breaks_24 ?_
          refine z_alen (c0 := 0) (i0 := x2) (k0 := 2) (n := 4) (v := (nI (zln 0 x2 2))) S hG h_x2 (by decide) rfl (by decide) rfl dX8_breaks_27 ?_
          refine lv_icmp_ge (tgt := 40) hx hb dX8_breaks_28 (by decide) (fun c4 => ?_) (fun c4 => ?_)
          · have hf := zif_p c4 hf
            refine lv_iconst (v := 0) hx hb dX8_breaks_40 (by decide) ?_
            obtain ⟨hq1, hq2⟩ := Prod.mk.inj (Option.some.inj hf)
            subst hq1
            subst hq2
            exact z_zret S hG hS hlocks (Or.inl rfl) hr dX8_breaks_41
          · have hf := zif_n c4 hf
            refine lv_iload_n hx hb dX8_breaks_31 rfl (lv_at hl 3 rfl) ?_
            refine lv_aload_n hx hb dX8_breaks_32 rfl (lv_at hl 2 rfl) ?_
            refine z_get (c0 := 0) (i0 := x2) (k0 := 3) (T := TX0) (v := .ref (ad 0 x2 4)) S hG h_x2 rfl inlX0 (by decide) rfl zw_990 rfl dX8_breaks_33 ?_
            refine z_alen (c0 := 0) (i0 := x2) (k0 := 3) (n := 4) (v := (nI (zln 0 x2 3))) S hG h_x2 (by decide) rfl (by decide) rfl dX8_breaks_36 ?_
            refine lv_icmp_lt (tgt := 42) hx hb dX8_breaks_37 (by decide) (fun c5 => ?_) (fun c5 => ?_)
            · have hf := zif_p c5 hf
              refine lv_aload_n hx hb dX8_breaks_42 rfl (lv_at hl 2 rfl) ?_
              refine z_get (c0 := 0) (i0 := x2) (k0 := 1) (T := TX0) (v := .ref (ad 0 x2 2)) S hG h_x2 rfl inlX0 (by decide) rfl zw_988 rfl dX8_breaks_43 ?_
              refine lv_iload_n hx hb dX8_breaks_46 rfl (lv_at hl 3 rfl) ?_
              obtain ⟨i6, hi6, hf⟩ := zbi hf
              refine z_iald (c0 := 0) (i0 := x2) (k0 := 1) S hG h_x2 (by decide) rfl hi6 dX8_breaks_47 ?_
              refine lv_istore (lv' := [(5, .int (zA σ 0 x2 1 i6)), (0, .ref (ad 8 0 0)), (1, .ref (ad 7 x1 0)), (2, .ref (ad 0 x2 0)), (3, .int x3), (4, .int x4)]) hx hb dX8_breaks_48 hl (by decide) rfl (fun ls hl => ?_)
              refine lv_aload_n hx hb dX8_breaks_50 rfl (lv_at hl 3 rfl) ?_
              refine z_get (c0 := 0) (i0 := x2) (k0 := 2) (T := TX0) (v := .ref (ad 0 x2 3)) S hG h_x2 rfl inlX0 (by decide) rfl zw_989 rfl dX8_breaks_51 ?_
              refine lv_iload_n hx hb dX8_breaks_54 rfl (lv_at hl 4 rfl) ?_
              obtain ⟨i7, hi7, hf⟩ := zbi hf
              refine z_iald (c0 := 0) (i0 := x2) (k0 := 2) S hG h_x2 (by decide) rfl hi7 dX8_breaks_55 ?_
              refine lv_istore (lv' := [(6, .int (zA σ 0 x2 2 i7)), (5, .int (zA σ 0 x2 1 i6)), (0, .ref (ad 8 0 0)), (1, .ref (ad 7 x1 0)), (2, .ref (ad 0 x2 0)), (3, .int x3), (4, .int x4)]) hx hb dX8_breaks_56 hl (by decide) rfl (fun ls hl => ?_)
              refine lv_aload_n hx hb dX8_breaks_58 rfl (lv_at hl 4 rfl) ?_
              refine z_get (c0 := 0) (i0 := x2) (k0 := 3) (T := TX0) (v := .ref (ad 0 x2 4)) S hG h_x2 rfl inlX0 (by decide) rfl zw_990 rfl dX8_breaks_59 ?_
              refine lv_iload_n hx hb dX8_breaks_62 rfl (lv_at hl 5 rfl) ?_
              obtain ⟨i8, hi8, hf⟩ := zbi hf
              refine z_iald (c0 := 0) (i0 := x2) (k0 := 3) S hG h_x2 (by decide) rfl hi8 dX8_breaks_63 ?_
              refine lv_istore (lv' := [(7, .int (zA σ 0 x2 3 i8)), (6, .int (zA σ 0 x2 2 i7)), (5, .int (zA σ 0 x2 1 i6)), (0, .ref (ad 8 0 0)), (1, .ref (ad 7 x1 0)), (2, .ref (ad 0 x2 0)), (3, .int x3), (4, .int x4)]) hx hb dX8_breaks_64 hl (by decide) rfl (fun ls hl => ?_)
              refine lv_aload_n hx hb dX8_breaks_66 rfl (lv_at hl 5 rfl) ?_
              refine z_get (c0 := 0) (i0 := x2) (k0 := 0) (T := TX0) (v := .ref (ad 0 x2 1)) S hG h_x2 rfl inlX0 (by decide) rfl zw_987 rfl dX8_breaks_67 ?_
              refine lv_iload_n hx hb dX8_breaks_70 rfl (lv_at hl 6 rfl) ?_
              obtain ⟨i9, hi9, hf⟩ := zbi hf
              refine z_iald (c0 := 0) (i0 := x2) (k0 := 0) S hG h_x2 (by decide) rfl hi9 dX8_breaks_71 ?_
              by_cases c10 : (zA σ 0 x2 0 i9) = 0
              · have hf := zif_p c10 hf
                refine lv_tableIn (x := (zA σ 0 x2 0 i9)) (off := 52) (tgt := 124) hx hb dX8_breaks_72 (by rw [c10]; decide) (by rw [c10]; decide) (by rw [c10]; decide) (by decide) ?_
                refine lv_aload_n hx hb dX8_breaks_124 rfl (lv_at hl 4 rfl) ?_
                refine lv_iload hx hb dX8_breaks_125 (lv_at hl 2 rfl) ?_
                obtain ⟨r11, er11, hf⟩ := zbi hf
                refine z_callV (n := 1) (rest := []) (st1 := [.int r11]) (c0 := 7) (i0 := x1) h_x1 (by rfl) S hG hS hZ (fun _ _ h => h) (c_X7_countOf l D aC zs A nl ad σ x1 (zA σ 0 x2 1 i6) r11 h_x1 er11) zw_921 zw_873 zw_874 zw_783 zw_875 (by decide +kernel) ⟨rfl, rfl⟩ ⟨(Nat.le_of_ble_eq_true rfl), (Nat.le_of_ble_eq_true rfl)⟩ hl.1 rfl (by rfl) (by rfl) (Nat.le_of_ble_eq_true rfl) dX8_breaks_127 ⟨Nat.zero_le _, Nat.zero_le _⟩ (fun H locs hz12 hG hS => ?_)
                refine lv_iload hx hb dX8_breaks_130 (lv_at hl 1 rfl) ?_
                refine lv_icmp_lt (tgt := 152) hx hb dX8_breaks_132 (by decide) (fun c13 => ?_) (fun c13 => ?_)
                · have hf := zif_p c13 hf
                  exact KJ152 σ H locs ls hG hS (lv_sub hl [3, 4, 5, 6, 7] rfl) hf
                · have hf := zif_n c13 hf
                  refine lv_iload hx hb dX8_breaks_135 (lv_at hl 0 rfl) ?_
                  refine lv_if_le (tgt := 156) hx hb dX8_breaks_137 (by decide) (fun c14 => ?_) (fun c14 => ?_)
                  · have hf := zif_p c14 hf
                    refine lv_iconst (v := 0) hx hb dX8_breaks_156 (by decide) ?_
                    obtain ⟨hq1, hq2⟩ := Prod.mk.inj (Option.some.inj hf)
                    subst hq1
                    subst hq2
                    exact z_zret S hG hS hlocks (Or.inl rfl) hr dX8_breaks_157
                  · have hf := zif_n c14 hf
                    refine lv_aload_n hx hb dX8_breaks_140 rfl (lv_at hl 3 rfl) ?_
                    refine lv_aload_n hx hb dX8_breaks_141 rfl (lv_at hl 4 rfl) ?_
                    refine lv_iload hx hb dX8_breaks_142 (lv_at hl 2 rfl) ?_
                    obtain ⟨r15, er15, hf⟩ := zbi hf
                    refine z_callV (n := 2) (rest := []) (st1 := [.int r15]) (c0 := 8) (i0 := 0) (hZ.2.1 (8, 0) (by decide)) (by rfl) S hG hS hZ (fun _ _ h => h) (c_X8_lightOf l D aC zs A nl ad σ x1 (zA σ 0 x2 1 i6) r15 h_x1 er15) zw_991 zw_877 zw_878 zw_31 zw_879 (by decide +kernel) ⟨rfl, rfl⟩ ⟨(Nat.le_of_ble_eq_true rfl), (Nat.le_of_ble_eq_true rfl)⟩ hl.1 rfl (by rfl) (by rfl) (Nat.le_of_ble_eq_true rfl) dX8_breaks_144 ⟨Nat.zero_le _, Nat.zero_le _⟩ (fun H locs hz16 hG hS => ?_)
                    refine lv_iload hx hb dX8_breaks_147 (lv_at hl 0 rfl) ?_
                    refine lv_icmp_ge (tgt := 156) hx hb dX8_breaks_149 (by decide) (fun c17 => ?_) (fun c17 => ?_)
                    · have hf := zif_p c17 hf
                      refine lv_iconst (v := 0) hx hb dX8_breaks_156 (by decide) ?_
                      obtain ⟨hq1, hq2⟩ := Prod.mk.inj (Option.some.inj hf)
                      subst hq1
                      subst hq2
                      exact z_zret S hG hS hlocks (Or.inl rfl) hr dX8_breaks_157
                    · have hf := zif_n c17 hf
                      exact KJ152 σ H locs ls hG hS (lv_sub hl [3, 4, 5, 6, 7] rfl) hf
              · have hf := zif_n c10 hf
                by_cases c18 : (zA σ 0 x2 0 i9) = 1
                · have hf := zif_p c18 hf
                  refine lv_tableIn (x := (zA σ 0 x2 0 i9)) (off := 86) (tgt := 158) hx hb dX8_breaks_72 (by rw [c18]; decide) (by rw [c18]; decide) (by rw [c18]; decide) (by decide) ?_
                  refine lv_aload_n hx hb dX8_breaks_158 rfl (lv_at hl 3 rfl) ?_
                  refine lv_aload_n hx hb dX8_breaks_159 rfl (lv_at hl 4 rfl) ?_
                  refine lv_iload hx hb dX8_breaks_160 (lv_at hl 2 rfl) ?_
                  refine lv_iload hx hb dX8_breaks_162 (lv_at hl 1 rfl) ?_
                  refine lv_iload hx hb dX8_breaks_164 (lv_at hl 0 rfl) ?_
                  obtain ⟨q19, eq19, hf⟩ := zbi hf
                  refine z_callV (n := 4) (rest := []) (st1 := [.int q19.1]) (c0 := 8) (i0 := 0) (hZ.2.1 (8, 0) (by decide)) (by rfl) S hG hS hZ (fun _ _ h => h) (c_X8_stepsWithin l D aC zs A nl ad σ x1 (zA σ 0 x2 1 i6) (zA σ 0 x2 2 i7) (zA σ 0 x2 3 i8) q19.1 q19.2 h_x1 eq19) zw_992 zw_918 zw_919 zw_31 zw_920 (by decide +kernel) ⟨rfl, rfl⟩ ⟨(Nat.le_of_ble_eq_true rfl), (Nat.le_of_ble_eq_true rfl)⟩ hl.1 rfl (by rfl) (by rfl) (Nat.le_of_ble_eq_true rfl) dX8_breaks_166 ⟨Nat.zero_le _, Nat.zero_le _⟩ (fun H locs hz20 hG hS => ?_)
                  refine lv_iconst (v := (-1)) hx hb dX8_breaks_169 (by decide) ?_
                  refine lv_icmp_ne (tgt := 177) hx hb dX8_breaks_170 (by decide) (fun c21 => ?_) (fun c21 => ?_)
                  · have hf := zif_n c21 hf
                    refine lv_iconst (v := 0) hx hb dX8_breaks_177 (by decide) ?_
                    obtain ⟨hq1, hq2⟩ := Prod.mk.inj (Option.some.inj hf)
                    subst hq1
                    subst hq2
                    exact z_zret S hG hS hlocks (Or.inl rfl) hr dX8_breaks_178
                  · have hf := zif_p c21 hf
                    refine lv_iconst (v := 1) hx hb dX8_breaks_173 (by decide) ?_
                    refine lv_goto (tgt := 178) hx hb dX8_breaks_174 (by decide) ?_
                    obtain ⟨hq1, hq2⟩ := Prod.mk.inj (Option.some.inj hf)
                    subst hq1
                    subst hq2
                    exact z_zret S hG hS hlocks (Or.inr rfl) hr dX8_breaks_178
                · have hf := zif_n c18 hf
                  by_cases c22 : (zA σ 0 x2 0 i9) = 2
                  · have hf := zif_p c22 hf
                    refine lv_tableIn (x := (zA σ 0 x2 0 i9)) (off := 107) (tgt := 179) hx hb dX8_breaks_72 (by rw [c22]; decide) (by rw [c22]; decide) (by rw [c22]; decide) (by decide) ?_
                    refine lv_aload_n hx hb dX8_breaks_179 rfl (lv_at hl 3 rfl) ?_
                    refine lv_aload_n hx hb dX8_breaks_180 rfl (lv_at hl 4 rfl) ?_
                    refine lv_iload hx hb dX8_breaks_181 (lv_at hl 2 rfl) ?_
                    refine lv_iload hx hb dX8_breaks_183 (lv_at hl 1 rfl) ?_
                    refine lv_iload hx hb dX8_breaks_185 (lv_at hl 0 rfl) ?_
                    refine lv_iconst (v := 1) hx hb dX8_breaks_187 (by decide) ?_
                    refine lv_isub hx hb dX8_breaks_188 ?_
                    obtain ⟨q23, eq23, hf⟩ := zbi hf
                    refine z_callV (n := 4) (rest := []) (st1 := [.int q23.1]) (c0 := 8) (i0 := 0) (hZ.2.1 (8, 0) (by decide)) (by rfl) S hG hS hZ (fun _ _ h => h) (c_X8_stepsWithin l D aC zs A nl ad σ x1 (zA σ 0 x2 1 i6) (zA σ 0 x2 2 i7) ((zA σ 0 x2 3 i8) - 1) q23.1 q23.2 h_x1 eq23) zw_992 zw_918 zw_919 zw_31 zw_920 (by decide +kernel) ⟨rfl, rfl⟩ ⟨(Nat.le_of_ble_eq_true rfl), (Nat.le_of_ble_eq_true rfl)⟩ hl.1 rfl (by rfl) (by rfl) (Nat.le_of_ble_eq_true rfl) dX8_breaks_189 ⟨Nat.zero_le _, Nat.zero_le _⟩ (fun H locs hz24 hG hS => ?_)
                    refine lv_iconst (v := (-1)) hx hb dX8_breaks_192 (by decide) ?_
                    refine lv_icmp_eq (tgt := 200) hx hb dX8_breaks_193 (by decide) (fun c25 => ?_) (fun c25 => ?_)
                    · have hf := zif_p c25 hf
                      refine lv_iconst (v := 0) hx hb dX8_breaks_200 (by decide) ?_
                      obtain ⟨hq1, hq2⟩ := Prod.mk.inj (Option.some.inj hf)
                      subst hq1
                      subst hq2
                      exact z_zret S hG hS hlocks (Or.inl rfl) hr dX8_breaks_201
                    · have hf := zif_n c25 hf
                      refine lv_iconst (v := 1) hx hb dX8_breaks_196 (by decide) ?_
                      refine lv_goto (tgt := 201) hx hb dX8_breaks_197 (by decide) ?_
                      obtain ⟨hq1, hq2⟩ := Prod.mk.inj (Option.some.inj hf)
                      subst hq1
                      subst hq2
                      exact z_zret S hG hS hlocks (Or.inr rfl) hr dX8_breaks_201
                  · have hf := zif_n c22 hf
                    by_cases c26 : (zA σ 0 x2 0 i9) = 7
                    · have hf := zif_p c26 hf
                      refine lv_tableIn (x := (zA σ 0 x2 0 i9)) (off := 130) (tgt := 202) hx hb dX8_breaks_72 (by rw [c26]; decide) (by rw [c26]; decide) (by rw [c26]; decide) (by decide) ?_
                      refine lv_aload_n hx hb dX8_breaks_202 rfl (lv_at hl 4 rfl) ?_
                      refine lv_aload_n hx hb dX8_breaks_203 rfl (lv_at hl 5 rfl) ?_
                      obtain ⟨r27, er27, hf⟩ := zbi hf
                      refine z_callV (n := 1) (rest := []) (st1 := [.int r27]) (c0 := 7) (i0 := x1) h_x1 (by rfl) S hG hS hZ (fun _ _ h => h) (c_X7_costBy l D aC zs A nl ad σ x1 x2 r27 h_x1 h_x2 er27) zw_993 zw_951 zw_952 zw_783 zw_953 (by decide +kernel) ⟨rfl, rfl⟩ ⟨(Nat.le_of_ble_eq_true rfl), (Nat.le_of_ble_eq_true rfl)⟩ hl.1 rfl (by rfl) (by rfl) (Nat.le_of_ble_eq_true rfl) dX8_breaks_204 ⟨Nat.zero_le _, Nat.zero_le _⟩ (fun H locs hz28 hG hS => ?_)
                      refine lv_iload hx hb dX8_breaks_207 (lv_at hl 2 rfl) ?_
                      refine lv_icmp_le (tgt := 216) hx hb dX8_breaks_209 (by decide) (fun c29 => ?_) (fun c29 => ?_)
                      · have hf := zif_p c29 hf
                        refine lv_iconst (v := 0) hx hb dX8_breaks_216 (by decide) ?_
                        obtain ⟨hq1, hq2⟩ := Prod.mk.inj (Option.some.inj hf)
                        subst hq1
                        subst hq2
                        exact z_zret S hG hS hlocks (Or.inl rfl) hr dX8_breaks_217
                      · have hf := zif_n c29 hf
                        refine lv_iconst (v := 1) hx hb dX8_breaks_212 (by decide) ?_
                        refine lv_goto (tgt := 217) hx hb dX8_breaks_213 (by decide) ?_
                        obtain ⟨hq1, hq2⟩ := Prod.mk.inj (Option.some.inj hf)
                        subst hq1
                        subst hq2
                        exact z_zret S hG hS hlocks (Or.inr rfl) hr dX8_breaks_217
                    · have hf := zif_n c26 hf
                      by_cases c30 : (zA σ 0 x2 0 i9) = 8
                      · have hf := zif_p c30 hf
                        refine lv_tableIn (x := (zA σ 0 x2 0 i9)) (off := 146) (tgt := 218) hx hb dX8_breaks_72 (by rw [c30]; decide) (by rw [c30]; decide) (by rw [c30]; decide) (by decide) ?_
                        refine lv_aload_n hx hb dX8_breaks_218 rfl (lv_at hl 3 rfl) ?_
                        refine lv_aload_n hx hb dX8_breaks_219 rfl (lv_at hl 4 rfl) ?_
                        refine lv_aload_n hx hb dX8_breaks_220 rfl (lv_at hl 5 rfl) ?_
                        refine lv_iload hx hb dX8_breaks_221 (lv_at hl 2 rfl) ?_
                        refine lv_iload hx hb dX8_breaks_223 (lv_at hl 1 rfl) ?_
                        refine lv_iload hx hb dX8_breaks_225 (lv_at hl 7 rfl) ?_
                        obtain ⟨r31, er31, hf⟩ := zbi hf
                        refine z_callV (n := 5) (rest := []) (st1 := [.int r31]) (c0 := 8) (i0 := 0) (hZ.2.1 (8, 0) (by decide)) (by rfl) S hG hS hZ (fun _ _ h => h) (c_X8_throwsOut l D aC zs A nl ad σ x1 x2 (zA σ 0 x2 1 i6) (zA σ 0 x2 2 i7) x4 r31 h_x1 h_x2 er31) zw_994 zw_995 zw_996 zw_31 zw_997 (by decide +kernel) ⟨rfl, rfl⟩ ⟨(Nat.le_of_ble_eq_true rfl), (Nat.le_of_ble_eq_true rfl)⟩ hl.1 rfl (by rfl) (by rfl) (Nat.le_of_ble_eq_true rfl) dX8_breaks_227 ⟨Nat.zero_le _, Nat.zero_le _⟩ (fun H locs hz32 hG hS => ?_)
                        obtain ⟨hq1, hq2⟩ := Prod.mk.inj (Option.some.inj hf)
                        subst hq1
                        subst hq2
                        exact z_zret S hG hS hlocks hz32 hr dX8_breaks_230
                      · have hf := zif_n c30 hf
                        by_cases c33 : (zA σ 0 x2 0 i9) = 3
                        · refine lv_tableIn (x := (zA σ 0 x2 0 i9)) (off := 159) (tgt := 231) hx hb dX8_breaks_72 (by rw [c33]; decide) (by rw [c33]; decide) (by rw [c33]; decide) (by decide) ?_
                          refine lv_iconst (v := 0) hx hb dX8_breaks_231 (by decide) ?_
                          obtain ⟨hq1, hq2⟩ := Prod.mk.inj (Option.some.inj hf)
                          subst hq1
                          subst hq2
                          exact z_zret S hG hS hlocks (Or.inl rfl) hr dX8_breaks_232
                        · by_cases c34 : (zA σ 0 x2 0 i9) = 4
                          · refine lv_tableIn (x := (zA σ 0 x2 0 i9)) (off := 159) (tgt := 231) hx hb dX8_breaks_72 (by rw [c34]; decide) (by rw [c34]; decide) (by rw [c34]; decide) (by decide) ?_
                            refine lv_iconst (v := 0) hx hb dX8_breaks_231 (by decide) ?_
                            obtain ⟨hq1, hq2⟩ := Prod.mk.inj (Option.some.inj hf)
                            subst hq1
                            subst hq2
                            exact z_zret S hG hS hlocks (Or.inl rfl) hr dX8_breaks_232
                          · by_cases c35 : (zA σ 0 x2 0 i9) = 5
                            · refine lv_tableIn (x := (zA σ 0 x2 0 i9)) (off := 159) (tgt := 231) hx hb dX8_breaks_72 (by rw [c35]; decide) (by rw [c35]; decide) (by rw [c35]; decide) (by decide) ?_
                              refine lv_iconst (v := 0) hx hb dX8_breaks_231 (by decide) ?_
                              obtain ⟨hq1, hq2⟩ := Prod.mk.inj (Option.some.inj hf)
                              subst hq1
                              subst hq2
                              exact z_zret S hG hS hlocks (Or.inl rfl) hr dX8_breaks_232
                            · by_cases c36 : (zA σ 0 x2 0 i9) = 6
                              · refine lv_tableIn (x := (zA σ 0 x2 0 i9)) (off := 159) (tgt := 231) hx hb dX8_breaks_72 (by rw [c36]; decide) (by rw [c36]; decide) (by rw [c36]; decide) (by decide) ?_
                                refine lv_iconst (v := 0) hx hb dX8_breaks_231 (by decide) ?_
                                obtain ⟨hq1, hq2⟩ := Prod.mk.inj (Option.some.inj hf)
                                subst hq1
                                subst hq2
                                exact z_zret S hG hS hlocks (Or.inl rfl) hr dX8_breaks_232
                              · have hout : (zA σ 0 x2 0 i9).toInt < 0 ∨ 8 < (zA σ 0 x2 0 i9).toInt := by
                                  rcases (show (zA σ 0 x2 0 i9).toInt < 0 ∨ 8 < (zA σ 0 x2 0 i9).toInt ∨ (zA σ 0 x2 0 i9).toInt = 0 ∨ (zA σ 0 x2 0 i9).toInt = 1 ∨ (zA σ 0 x2 0 i9).toInt = 2 ∨ (zA σ 0 x2 0 i9).toInt = 3 ∨ (zA σ 0 x2 0 i9).toInt = 4 ∨ (zA σ 0 x2 0 i9).toInt = 5 ∨ (zA σ 0 x2 0 i9).toInt = 6 ∨ (zA σ 0 x2 0 i9).toInt = 7 ∨ (zA σ 0 x2 0 i9).toInt = 8 by omega) with h | h | h | h | h | h | h | h | h | h | h
                                  · exact Or.inl h
                                  · exact Or.inr h
                                  · exact absurd (Int32.toInt_inj.mp (h.trans (by decide : (0 : Int) = (0 : Int32).toInt))) c10
                                  · exact absurd (Int32.toInt_inj.mp (h.trans (by decide : (1 : Int) = (1 : Int32).toInt))) c18
                                  · exact absurd (Int32.toInt_inj.mp (h.trans (by decide : (2 : Int) = (2 : Int32).toInt))) c22
                                  · exact absurd (Int32.toInt_inj.mp (h.trans (by decide : (3 : Int) = (3 : Int32).toInt))) c33
                                  · exact absurd (Int32.toInt_inj.mp (h.trans (by decide : (4 : Int) = (4 : Int32).toInt))) c34
                                  · exact absurd (Int32.toInt_inj.mp (h.trans (by decide : (5 : Int) = (5 : Int32).toInt))) c35
                                  · exact absurd (Int32.toInt_inj.mp (h.trans (by decide : (6 : Int) = (6 : Int32).toInt))) c36
                                  · exact absurd (Int32.toInt_inj.mp (h.trans (by decide : (7 : Int) = (7 : Int32).toInt))) c26
                                  · exact absurd (Int32.toInt_inj.mp (h.trans (by decide : (8 : Int) = (8 : Int32).toInt))) c30
                                refine lv_tableOut (x := (zA σ 0 x2 0 i9)) (tgt := 231) hx hb dX8_breaks_72 hout (by decide) ?_
                                refine lv_iconst (v := 0) hx hb dX8_breaks_231 (by decide) ?_
                                obtain ⟨hq1, hq2⟩ := Prod.mk.inj (Option.some.inj hf)
                                subst hq1
                                subst hq2
                                exact z_zret S hG hS hlocks (Or.inl rfl) hr dX8_breaks_232
            · have hf := zif_n c5 hf
              refine lv_iconst (v := 0) hx hb dX8_breaks_40 (by decide) ?_
              obtain ⟨hq1, hq2⟩ := Prod.mk.inj (Option.some.inj hf)
              subst hq1
              subst hq2
              exact z_zret S hG hS hlocks (Or.inl rfl) hr dX8_breaks_41
  exact hK0 _ _ ls hG hS hl hf
set_option maxRecDepth 100000 in
set_option maxHeartbeats 4000000 in
theorem c_X8_firstBroken (l : Launch) (D : va_G) (aC : Nat → ClassId) (zs : Nat × Nat) (A : Nat → Prop) (nl : zNL) (ad : Nat → Nat → Nat → Nat) (σ : zM) (x1 : Nat) (x2 : Nat) (x3 : Int32) (r : Int32) (σ' : zM) (h_x1 : zin nl 7 x1) (h_x2 : zin nl 0 x2) (hf : f_X8_firstBroken σ x1 x2 x3 = some (r, σ')) : Met l yX8_firstBroken (Cond.code yX8_firstBroken cX8_firstBroken 5 (some .int) :: wsL_law) ({ frames := 6, cells := 0, slots := 0, locals := 153 } : Room) (zP D aC zs zfX A nl ad σ [.ref (ad 8 0 0), .ref (ad 7 x1 0), .ref (ad 0 x2 0), .int x3]) (zQ (some (.int r)) (fun t => zG D aC A nl ad σ' t t.heap ∧ True) A) 0 0 A := by
  refine Met.ofW (cc := cX8_firstBroken) (maxL := 5) (ret := (some .int)) (by decide) rfl ?_
  intro p e s m args below meth c s₁ B hml hv
  obtain ⟨rfl, hG, hZ⟩ := hv
  have hx := B.exec
  have hb := B.bytes
  have hr := B.returns
  have hts : ∀ w ∈ wsL_law, w.before ([.ref (ad 8 0 0), .ref (ad 7 x1 0), .ref (ad 0 x2 0), .int x3] : List Value).toArray s = true := fun w h => (atoms_spec B.pre) w (List.mem_cons_of_mem _ h)
  have hown : s.vm.findClass RX8 = some m.cls := findClass_of_methodNamed B.named
  have hlocks := B.notSynchronized
  have S : zS p m c cX8_firstBroken 5 s ([.ref (ad 8 0 0), .ref (ad 7 x1 0), .ref (ad 0 x2 0), .int x3] : List Value).toArray RX8 := ⟨hx, hb, hml, hown, hts⟩
  have hS : va_S A s.heap s.heap [] := va_S.rf
  have hl := lv_entry ([.ref (ad 8 0 0), .ref (ad 7 x1 0), .ref (ad 0 x2 0), .int x3]) (n := 5) (Nat.le_of_ble_eq_true rfl)
  rw [lg_entry_eq]
  generalize (lg_sl ([.ref (ad 8 0 0), .ref (ad 7 x1 0), .ref (ad 0 x2 0), .int x3]) ++ List.replicate (5 - (lg_sl ([.ref (ad 8 0 0), .ref (ad 7 x1 0), .ref (ad 0 x2 0), .int x3])).length) Slot.unset).toArray = ls at hl ⊢
  have hl : lv_has ls 5 [(0, .ref (ad 8 0 0)), (1, .ref (ad 7 x1 0)), (2, .ref (ad 0 x2 0)), (3, .int x3)] := hl
  generalize hargs : ([.ref (ad 8 0 0), .ref (ad 7 x1 0), .ref (ad 0 x2 0), .int x3] : List Value).toArray = args at S hts ⊢
  clear hargs
  have hK0 : ∀ (H : Heap) (locs : List Loc) (ls : Array Slot), zG D aC A nl ad σ s H → va_S A s.heap H locs → lv_has ls 5 [(0, .ref (ad 8 0 0)), (1, .ref (ad 7 x1 0)), (2, .ref (ad 0 x2 0)), (3, .int x3)] → f_X8_firstBroken σ x1 x2 x3 = some (r, σ') → zWk p l e ({ frames := 6, cells := 0, slots := 0, locals := 153 } : Room) s m args below meth c A (some (.int r)) (fun t => zG D aC A nl ad σ' t t.heap ∧ True) H locs (F0 m 0 ls []) := by
    intro H locs ls hG hS hl hf
    unfold f_X8_firstBroken at hf
    refine lv_iconst (v := 0) hx hb dX8_firstBroken_0 (by decide) ?_
    refine lv_istore (lv' := [(4, .int 0), (0, .ref (ad 8 0 0)), (1, .ref (ad 7 x1 0)), (2, .ref (ad 0 x2 0)), (3, .int x3)]) hx hb dX8_firstBroken_1 hl (by decide) rfl (fun ls hl => ?_)
    obtain ⟨t3, hw3, hfo3⟩ := zbi hf
    have KL3 : ∀ (n : Nat) (y4l3 : Int32) (σl3 : zM) (H : Heap) (locs : List Loc) (ls : Array Slot), zG D aC A nl ad σl3 s H → va_S A s.heap H locs → lv_has ls 5 [(0, .ref (ad 8 0 0)), (1, .ref (ad 7 x1 0)), (2, .ref (ad 0 x2 0)), (3, .int x3), (4, .int y4l3)] → zwh (fun (q : (Int32 × zM)) => f_X8_firstBroken_L3 x1 x2 x3 q.1 q.2) n (y4l3, σl3) = some t3 → zWk p l e ({ frames := 6, cells := 0, slots := 0, locals := 153 } : Room) s m args below meth c A (some (.int r)) (fun t => zG D aC A nl ad σ' t t.heap ∧ True) H locs (F0 m 3 ls []) := by
      intro n
      induction n with
      | zero =>
        intro y4l3 σl3 H locs ls hG hS hl hw
        exact (zwh_0 hw).elim
      | succ n ih3 =>
        intro y4l3 σl3 H locs ls hG hS hl hw
        obtain ⟨rr3, hf, hk3⟩ := zwh_u hw
        have hf : f_X8_firstBroken_L3 x1 x2 x3 y4l3 σl3 = some rr3 := hf
        unfold f_X8_firstBroken_L3 at hf
        refine lv_iload hx hb dX8_firstBroken_3 (lv_at hl 4 rfl) ?_
        refine lv_aload_n hx hb dX8_firstBroken_5 rfl (lv_at hl 2 rfl) ?_
        refine z_get (c0 := 0) (i0 := x2) (k0 := 7) (T := TX0) (v := .int (zI σl3 0 x2 7)) S hG h_x2 rfl inlX0 (by decide) rfl zw_982 rfl dX8_firstBroken_6 ?_
        refine lv_icmp_ge (tgt := 33) hx hb dX8_firstBroken_9 (by decide) (fun c5 => ?_) (fun c5 => ?_)
        · have hf := zif_p c5 hf
          cases hf
          have hk3 : ((.inr σl3) : ((Int32 × zM) ⊕ zM)) = t3 := hk3
          have hf := hfo3
          rw [← hk3] at hf
          have hf : (some ((-1), σl3)) = some (r, σ') := hf
          refine lv_iconst (v := (-1)) hx hb dX8_firstBroken_33 (by decide) ?_
          obtain ⟨hq1, hq2⟩ := Prod.mk.inj (Option.some.inj hf)
          subst hq1
          subst hq2
          exact z_iret S hG hS hlocks trivial hr dX8_firstBroken_34
        · have hf := zif_n c5 hf
          refine lv_aload_n hx hb dX8_firstBroken_12 rfl (lv_at hl 0 rfl) ?_
          refine lv_aload_n hx hb dX8_firstBroken_13 rfl (lv_at hl 1 rfl) ?_
          refine lv_aload_n hx hb dX8_firstBroken_14 rfl (lv_at hl 2 rfl) ?_
          refine lv_iload hx hb dX8_firstBroken_15 (lv_at hl 4 rfl) ?_
          refine lv_iload_n hx hb dX8_firstBroken_17 rfl (lv_at hl 3 rfl) ?_
          obtain ⟨q6, eq6, hf⟩ := zbi hf
          refine z_callV (n := 4) (rest := []) (st1 := [.int q6.1]) (c0 := 8) (i0 := 0) (hZ.2.1 (8, 0) (by decide)) (by rfl) S hG hS hZ (fun _ _ h => h) (c_X8_breaks l D aC zs A nl ad σl3 x1 x2 y4l3 x3 q6.1 q6.2 h_x1 h_x2 eq6) zw_983 zw_984 zw_985 zw_31 zw_986 (by decide +kernel) ⟨rfl, rfl⟩ ⟨(Nat.le_of_ble_eq_true rfl), (Nat.le_of_ble_eq_true rfl)⟩ hl.1 rfl (by rfl) (by rfl) (Nat.le_of_ble_eq_true rfl) dX8_firstBroken_18 ⟨Nat.zero_le _, Nat.zero_le _⟩ (fun H locs hz7 hG hS => ?_)
          refine lv_if_eq (tgt := 27) hx hb dX8_firstBroken_21 (by decide) (fun c8 => ?_) (fun c8 => ?_)
          · have hf := zif_p c8 hf
            refine lv_iinc (v := (y4l3 + 1)) (lv' := [(4, .int (y4l3 + 1)), (0, .ref (ad 8 0 0)), (1, .ref (ad 7 x1 0)), (2, .ref (ad 0 x2 0)), (3, .int x3)]) hx hb dX8_firstBroken_27 hl (k := 4) rfl rfl (by decide) rfl (fun ls hl => ?_)
            refine lv_goto (tgt := 3) hx hb dX8_firstBroken_30 (by decide) ?_
            cases hf
            exact ih3 (y4l3 + 1) q6.2 H locs ls hG hS (lv_sub hl [1, 2, 3, 4, 0] rfl) hk3
          · have hf := zif_n c8 hf
            cases hf
            have hk3 : ((.inl (y4l3, q6.2)) : ((Int32 × zM) ⊕ zM)) = t3 := hk3
            have hf := hfo3
            rw [← hk3] at hf
            have hf : (some (y4l3, q6.2)) = some (r, σ') := hf
            refine lv_iload hx hb dX8_firstBroken_24 (lv_at hl 4 rfl) ?_
            obtain ⟨hq1, hq2⟩ := Prod.mk.inj (Option.some.inj hf)
            subst hq1
            subst hq2
            exact z_iret S hG hS hlocks trivial hr dX8_firstBroken_26
    exact KL3 zFu 0 σ H locs ls hG hS (lv_sub hl [1, 2, 3, 4, 0] rfl) hw3
  exact hK0 _ _ ls hG hS hl hf
set_option maxRecDepth 100000 in
set_option maxHeartbeats 4000000 in
theorem c_X8_setMend (l : Launch) (D : va_G) (aC : Nat → ClassId) (zs : Nat × Nat) (A : Nat → Prop) (nl : zNL) (ad : Nat → Nat → Nat → Nat) (σ : zM) (x1 : Int32) (x2 : Int32) (x3 : Int32)  (σ' : zM)  (hf : f_X8_setMend σ x1 x2 x3 = some σ') : Met l yX8_setMend (Cond.code yX8_setMend cX8_setMend 5 none :: wsL_law) ({ frames := 0, cells := 0, slots := 0, locals := 0 } : Room) (zP D aC zs zfX A nl ad σ [.ref (ad 8 0 0), .int x1, .int x2, .int x3]) (zQ none (fun t => zG D aC A nl ad σ' t t.heap ∧ True) A) 0 0 A := by
  refine Met.ofW (cc := cX8_setMend) (maxL := 5) (ret := none) (by decide) rfl ?_
  intro p e s m args below meth c s₁ B hml hv
  obtain ⟨rfl, hG, hZ⟩ := hv
  have hx := B.exec
  have hb := B.bytes
  have hr := B.returns
  have hts : ∀ w ∈ wsL_law, w.before ([.ref (ad 8 0 0), .int x1, .int x2, .int x3] : List Value).toArray s = true := fun w h => (atoms_spec B.pre) w (List.mem_cons_of_mem _ h)
  have hown : s.vm.findClass RX8 = some m.cls := findClass_of_methodNamed B.named
  have hlocks := B.notSynchronized
  have S : zS p m c cX8_setMend 5 s ([.ref (ad 8 0 0), .int x1, .int x2, .int x3] : List Value).toArray RX8 := ⟨hx, hb, hml, hown, hts⟩
  have hS : va_S A s.heap s.heap [] := va_S.rf
  have hl := lv_entry ([.ref (ad 8 0 0), .int x1, .int x2, .int x3]) (n := 5) (Nat.le_of_ble_eq_true rfl)
  rw [lg_entry_eq]
  generalize (lg_sl ([.ref (ad 8 0 0), .int x1, .int x2, .int x3]) ++ List.replicate (5 - (lg_sl ([.ref (ad 8 0 0), .int x1, .int x2, .int x3])).length) Slot.unset).toArray = ls at hl ⊢
  have hl : lv_has ls 5 [(0, .ref (ad 8 0 0)), (1, .int x1), (2, .int x2), (3, .int x3)] := hl
  generalize hargs : ([.ref (ad 8 0 0), .int x1, .int x2, .int x3] : List Value).toArray = args at S hts ⊢
  clear hargs
  have KJ82 : ∀ (t1b82 : Int32) (t2b82 : Int32)  (σb82 : zM) (H : Heap) (locs : List Loc) (ls : Array Slot), zG D aC A nl ad σb82 s H → va_S A s.heap H locs → lv_has ls 5 [(0, .ref (ad 8 0 0)), (1, .int x1), (2, .int x2), (3, .int x3)] → (f_X8_setMend_B82 σb82 x1 x2 x3 t1b82 t2b82) = some σ' → zWk p l e ({ frames := 0, cells := 0, slots := 0, locals := 0 } : Room) s m args below meth c A none (fun t => zG D aC A nl ad σ' t t.heap ∧ True) H locs (F0 m 82 ls [.int t2b82, .int t1b82, .ref (ad 8 0 4)]) := by
    intro t1b82 t2b82  σb82 H locs ls hG hS hl hf
    unfold f_X8_setMend_B82 at hf
    obtain ⟨i13, hi13, hf⟩ := zbi hf
    refine z_iast (c0 := 8) (i0 := 0) (k0 := 3) S hG hS (hZ.2.1 (8, 0) (by decide)) (by decide) rfl hi13 dX8_setMend_82 (fun H locs hG hS => ?_)
    obtain ⟨σ14, eσ14, hf⟩ := zlt_s hf
    rw [← eσ14] at hG
    refine lv_aload_n hx hb dX8_setMend_83 rfl (lv_at hl 0 rfl) ?_
    refine z_get (c0 := 8) (i0 := 0) (k0 := 3) (T := TX8) (v := .ref (ad 8 0 4)) S hG (hZ.2.1 (8, 0) (by decide)) rfl inlX8 (by decide) rfl zw_191 rfl dX8_setMend_84 ?_
    refine lv_iconst (v := 4) hx hb dX8_setMend_87 (by decide) ?_
    refine lv_iload_n hx hb dX8_setMend_88 rfl (lv_at hl 3 rfl) ?_
    obtain ⟨i15, hi15, hf⟩ := zbi hf
    refine z_iast (c0 := 8) (i0 := 0) (k0 := 3) S hG hS (hZ.2.1 (8, 0) (by decide)) (by decide) rfl hi15 dX8_setMend_89 (fun H locs hG hS => ?_)
    obtain ⟨σ16, eσ16, hf⟩ := zlt_s hf
    rw [← eσ16] at hG
    have hq := (Option.some.inj hf)
    subst hq
    exact z_vret S hG hS hlocks trivial hr dX8_setMend_90
  have KJ58 : ∀ (y4b58 : Int32) (t1b58 : Int32) (t2b58 : Int32)  (σb58 : zM) (H : Heap) (locs : List Loc) (ls : Array Slot), zG D aC A nl ad σb58 s H → va_S A s.heap H locs → lv_has ls 5 [(0, .ref (ad 8 0 0)), (1, .int x1), (2, .int x2), (3, .int x3), (4, .int y4b58)] → (f_X8_setMend_B58 σb58 x1 x2 x3 y4b58 t1b58 t2b58) = some σ' → zWk p l e ({ frames := 0, cells := 0, slots := 0, locals := 0 } : Room) s m args below meth c A none (fun t => zG D aC A nl ad σ' t t.heap ∧ True) H locs (F0 m 58 ls [.int t2b58, .int t1b58, .ref (ad 8 0 4)]) := by
    intro y4b58 t1b58 t2b58  σb58 H locs ls hG hS hl hf
    unfold f_X8_setMend_B58 at hf
    obtain ⟨i10, hi10, hf⟩ := zbi hf
    refine z_iast (c0 := 8) (i0 := 0) (k0 := 3) S hG hS (hZ.2.1 (8, 0) (by decide)) (by decide) rfl hi10 dX8_setMend_58 (fun H locs hG hS => ?_)
    obtain ⟨σ11, eσ11, hf⟩ := zlt_s hf
    rw [← eσ11] at hG
    refine lv_aload_n hx hb dX8_setMend_59 rfl (lv_at hl 0 rfl) ?_
    refine z_get (c0 := 8) (i0 := 0) (k0 := 3) (T := TX8) (v := .ref (ad 8 0 4)) S hG (hZ.2.1 (8, 0) (by decide)) rfl inlX8 (by decide) rfl zw_191 rfl dX8_setMend_60 ?_
    refine lv_iconst (v := 3) hx hb dX8_setMend_63 (by decide) ?_
    refine lv_iload hx hb dX8_setMend_64 (lv_at hl 4 rfl) ?_
    refine lv_if_eq (tgt := 81) hx hb dX8_setMend_66 (by decide) (fun c12 => ?_) (fun c12 => ?_)
    · have hf := zif_p c12 hf
      refine lv_iconst (v := (-1)) hx hb dX8_setMend_81 (by decide) ?_
      exact KJ82 3 (-1) σ11 H locs ls hG hS (lv_sub hl [0, 1, 2, 3] rfl) hf
    · have hf := zif_n c12 hf
      refine lv_iload_n hx hb dX8_setMend_69 rfl (lv_at hl 2 rfl) ?_
      refine lv_bipush (v := 120) hx hb dX8_setMend_70 (by decide) ?_
      refine z_irem (v := (zrem x2 120)) hx hb dX8_setMend_72 (by decide) rfl ?_
      refine lv_bipush (v := 12) hx hb dX8_setMend_73 (by decide) ?_
      refine lv_idiv hx hb dX8_setMend_75 (by decide) ?_
      refine lv_iconst (v := 1) hx hb dX8_setMend_76 (by decide) ?_
      refine lv_isub hx hb dX8_setMend_77 ?_
      refine lv_goto (tgt := 82) hx hb dX8_setMend_78 (by decide) ?_
      exact KJ82 3 (((zrem x2 120) / 12) - 1) σ11 H locs ls hG hS (lv_sub hl [0, 1, 2, 3] rfl) hf
  have KJ37 : ∀ (y4b37 : Int32) (t1b37 : Int32) (t2b37 : Int32)  (σb37 : zM) (H : Heap) (locs : List Loc) (ls : Array Slot), zG D aC A nl ad σb37 s H → va_S A s.heap H locs → lv_has ls 5 [(0, .ref (ad 8 0 0)), (1, .int x1), (2, .int x2), (3, .int x3), (4, .int y4b37)] → (f_X8_setMend_B37 σb37 x1 x2 x3 y4b37 t1b37 t2b37) = some σ' → zWk p l e ({ frames := 0, cells := 0, slots := 0, locals := 0 } : Room) s m args below meth c A none (fun t => zG D aC A nl ad σ' t t.heap ∧ True) H locs (F0 m 37 ls [.int t2b37, .int t1b37, .ref (ad 8 0 4)]) := by
    intro y4b37 t1b37 t2b37  σb37 H locs ls hG hS hl hf
    unfold f_X8_setMend_B37 at hf
    obtain ⟨i7, hi7, hf⟩ := zbi hf
    refine z_iast (c0 := 8) (i0 := 0) (k0 := 3) S hG hS (hZ.2.1 (8, 0) (by decide)) (by decide) rfl hi7 dX8_setMend_37 (fun H locs hG hS => ?_)
    obtain ⟨σ8, eσ8, hf⟩ := zlt_s hf
    rw [← eσ8] at hG
    refine lv_aload_n hx hb dX8_setMend_38 rfl (lv_at hl 0 rfl) ?_
    refine z_get (c0 := 8) (i0 := 0) (k0 := 3) (T := TX8) (v := .ref (ad 8 0 4)) S hG (hZ.2.1 (8, 0) (by decide)) rfl inlX8 (by decide) rfl zw_191 rfl dX8_setMend_39 ?_
    refine lv_iconst (v := 2) hx hb dX8_setMend_42 (by decide) ?_
    refine lv_iload hx hb dX8_setMend_43 (lv_at hl 4 rfl) ?_
    refine lv_if_eq (tgt := 57) hx hb dX8_setMend_45 (by decide) (fun c9 => ?_) (fun c9 => ?_)
    · have hf := zif_p c9 hf
      refine lv_iconst (v := (-1)) hx hb dX8_setMend_57 (by decide) ?_
      exact KJ58 y4b37 2 (-1) σ8 H locs ls hG hS (lv_sub hl [0, 1, 2, 3, 4] rfl) hf
    · have hf := zif_n c9 hf
      refine lv_iload_n hx hb dX8_setMend_48 rfl (lv_at hl 2 rfl) ?_
      refine lv_bipush (v := 12) hx hb dX8_setMend_49 (by decide) ?_
      refine z_irem (v := (zrem x2 12)) hx hb dX8_setMend_51 (by decide) rfl ?_
      refine lv_iconst (v := 1) hx hb dX8_setMend_52 (by decide) ?_
      refine lv_isub hx hb dX8_setMend_53 ?_
      refine lv_goto (tgt := 58) hx hb dX8_setMend_54 (by decide) ?_
      exact KJ58 y4b37 2 ((zrem x2 12) - 1) σ8 H locs ls hG hS (lv_sub hl [0, 1, 2, 3, 4] rfl) hf
  have hK0 : ∀ (H : Heap) (locs : List Loc) (ls : Array Slot), zG D aC A nl ad σ s H → va_S A s.heap H locs → lv_has ls 5 [(0, .ref (ad 8 0 0)), (1, .int x1), (2, .int x2), (3, .int x3)] → f_X8_setMend σ x1 x2 x3 = some σ' → zWk p l e ({ frames := 0, cells := 0, slots := 0, locals := 0 } : Room) s m args below meth c A none (fun t => zG D aC A nl ad σ' t t.heap ∧ True) H locs (F0 m 0 ls []) := by
    intro H locs ls hG hS hl hf
    unfold f_X8_setMend at hf
    refine lv_iload_n hx hb dX8_setMend_0 rfl (lv_at hl 2 rfl) ?_
    refine lv_iconst (v := (-1)) hx hb dX8_setMend_1 (by decide) ?_
    have Kv3 : ∀ (v3 : Int32) (ls : Array Slot), lv_has ls 5 [(0, .ref (ad 8 0 0)), (1, .int x1), (2, .int x2), (3, .int x3)] → ((zix 0 5).bind fun i17 => zlt (zsA σ 8 0 3 i17 x1) fun σ18 => if v3 = 0 then (f_X8_setMend_B37 σ18 x1 x2 x3 v3 1 (-1)) else (f_X8_setMend_B37 σ18 x1 x2 x3 v3 1 (x2 / 120))) = some σ' → zWk p l e ({ frames := 0, cells := 0, slots := 0, locals := 0 } : Room) s m args below meth c A none (fun t => zG D aC A nl ad σ' t t.heap ∧ True) H locs (F0 m 10 ls [.int v3]) := by
      intro v3 ls hl hf
      refine lv_istore (lv' := [(4, .int v3), (0, .ref (ad 8 0 0)), (1, .int x1), (2, .int x2), (3, .int x3)]) hx hb dX8_setMend_10 hl (by decide) rfl (fun ls hl => ?_)
      refine lv_aload_n hx hb dX8_setMend_12 rfl (lv_at hl 1 rfl) ?_
      refine z_get (c0 := 8) (i0 := 0) (k0 := 3) (T := TX8) (v := .ref (ad 8 0 4)) S hG (hZ.2.1 (8, 0) (by decide)) rfl inlX8 (by decide) rfl zw_191 rfl dX8_setMend_13 ?_
      refine lv_iconst (v := 0) hx hb dX8_setMend_16 (by decide) ?_
      refine lv_iload_n hx hb dX8_setMend_17 rfl (lv_at hl 2 rfl) ?_
      obtain ⟨i17, hi17, hf⟩ := zbi hf
      refine z_iast (c0 := 8) (i0 := 0) (k0 := 3) S hG hS (hZ.2.1 (8, 0) (by decide)) (by decide) rfl hi17 dX8_setMend_18 (fun H locs hG hS => ?_)
      obtain ⟨σ18, eσ18, hf⟩ := zlt_s hf
      rw [← eσ18] at hG
      refine lv_aload_n hx hb dX8_setMend_19 rfl (lv_at hl 1 rfl) ?_
      refine z_get (c0 := 8) (i0 := 0) (k0 := 3) (T := TX8) (v := .ref (ad 8 0 4)) S hG (hZ.2.1 (8, 0) (by decide)) rfl inlX8 (by decide) rfl zw_191 rfl dX8_setMend_20 ?_
      refine lv_iconst (v := 1) hx hb dX8_setMend_23 (by decide) ?_
      refine lv_iload hx hb dX8_setMend_24 (lv_at hl 0 rfl) ?_
      refine lv_if_eq (tgt := 36) hx hb dX8_setMend_26 (by decide) (fun c19 => ?_) (fun c19 => ?_)
      · have hf := zif_p c19 hf
        refine lv_iconst (v := (-1)) hx hb dX8_setMend_36 (by decide) ?_
        exact KJ37 v3 1 (-1) σ18 H locs ls hG hS (lv_sub hl [1, 2, 3, 4, 0] rfl) hf
      · have hf := zif_n c19 hf
        refine lv_iload_n hx hb dX8_setMend_29 rfl (lv_at hl 3 rfl) ?_
        refine lv_bipush (v := 120) hx hb dX8_setMend_30 (by decide) ?_
        refine lv_idiv hx hb dX8_setMend_32 (by decide) ?_
        refine lv_goto (tgt := 37) hx hb dX8_setMend_33 (by decide) ?_
        exact KJ37 v3 1 (x2 / 120) σ18 H locs ls hG hS (lv_sub hl [1, 2, 3, 4, 0] rfl) hf
    refine lv_icmp_eq (tgt := 9) hx hb dX8_setMend_2 (by decide) (fun c2 => ?_) (fun c2 => ?_)
    · rw [if_pos c2] at hf
      refine lv_iconst (v := 0) hx hb dX8_setMend_9 (by decide) ?_
      exact Kv3 _ ls hl hf
    · rw [if_neg c2] at hf
      refine lv_iconst (v := 1) hx hb dX8_setMend_5 (by decide) ?_
      refine lv_goto (tgt := 10) hx hb dX8_setMend_6 (by decide) ?_
      exact Kv3 _ ls hl hf
  exact hK0 _ _ ls hG hS hl hf
set_option maxRecDepth 100000 in
set_option maxHeartbeats 4000000 in
theorem c_X8_seekMend (l : Launch) (D : va_G) (aC : Nat → ClassId) (zs : Nat × Nat) (A : Nat → Prop) (nl : zNL) (ad : Nat → Nat → Nat → Nat) (σ : zM) (x1 : Int32) (x2 : Nat) (x3 : Nat) (x4 : Int32)  (σ' : zM) (h_x2 : zin nl 7 x2) (h_x3 : zin nl 0 x3) (hf : f_X8_seekMend σ x1 x2 x3 x4 = some σ') : Met l yX8_seekMend (Cond.code yX8_seekMend cX8_seekMend 11 none :: wsL_law) ({ frames := 7, cells := 0, slots := 0, locals := 177 } : Room) (zP D aC zs zfX A nl ad σ [.ref (ad 8 0 0), .int x1, .ref (ad 7 x2 0), .ref (ad 0 x3 0), .int x4]) (zQ none (fun t => zG D aC A nl ad σ' t t.heap ∧ True) A) 0 0 A := by
  refine Met.ofW (cc := cX8_seekMend) (maxL := 11) (ret := none) (by decide) rfl ?_
  intro p e s m args below meth c s₁ B hml hv
  obtain ⟨rfl, hG, hZ⟩ := hv
  have hx := B.exec
  have hb := B.bytes
  have hr := B.returns
  have hts : ∀ w ∈ wsL_law, w.before ([.ref (ad 8 0 0), .int x1, .ref (ad 7 x2 0), .ref (ad 0 x3 0), .int x4] : List Value).toArray s = true := fun w h => (atoms_spec B.pre) w (List.mem_cons_of_mem _ h)
  have hown : s.vm.findClass RX8 = some m.cls := findClass_of_methodNamed B.named
  have hlocks := B.notSynchronized
  have S : zS p m c cX8_seekMend 11 s ([.ref (ad 8 0 0), .int x1, .ref (ad 7 x2 0), .ref (ad 0 x3 0), .int x4] : List Value).toArray RX8 := ⟨hx, hb, hml, hown, hts⟩
  have hS : va_S A s.heap s.heap [] := va_S.rf
  have hl := lv_entry ([.ref (ad 8 0 0), .int x1, .ref (ad 7 x2 0), .ref (ad 0 x3 0), .int x4]) (n := 11) (Nat.le_of_ble_eq_true rfl)
  rw [lg_entry_eq]
  generalize (lg_sl ([.ref (ad 8 0 0), .int x1, .ref (ad 7 x2 0), .ref (ad 0 x3 0), .int x4]) ++ List.replicate (11 - (lg_sl ([.ref (ad 8 0 0), .int x1, .ref (ad 7 x2 0), .ref (ad 0 x3 0), .int x4])).length) Slot.unset).toArray = ls at hl ⊢
  have hl : lv_has ls 11 [(0, .ref (ad 8 0 0)), (1, .int x1), (2, .ref (ad 7 x2 0)), (3, .ref (ad 0 x3 0)), (4, .int x4)] := hl
  generalize hargs : ([.ref (ad 8 0 0), .int x1, .ref (ad 7 x2 0), .ref (ad 0 x3 0), .int x4] : List Value).toArray = args at S hts ⊢
  clear hargs
  have hK0 : ∀ (H : Heap) (locs : List Loc) (ls : Array Slot), zG D aC A nl ad σ s H → va_S A s.heap H locs → lv_has ls 11 [(0, .ref (ad 8 0 0)), (1, .int x1), (2, .ref (ad 7 x2 0)), (3, .ref (ad 0 x3 0)), (4, .int x4)] → f_X8_seekMend σ x1 x2 x3 x4 = some σ' → zWk p l e ({ frames := 7, cells := 0, slots := 0, locals := 177 } : Room) s m args below meth c A none (fun t => zG D aC A nl ad σ' t t.heap ∧ True) H locs (F0 m 0 ls []) := by
    intro H locs ls hG hS hl hf
    unfold f_X8_seekMend at hf
    refine lv_iload_n hx hb dX8_seekMend_0 rfl (lv_at hl 1 rfl) ?_
    refine lv_aload_n hx hb dX8_seekMend_1 rfl (lv_at hl 0 rfl) ?_
    refine z_get (c0 := 8) (i0 := 0) (k0 := 4) (T := TX8) (v := .int (zI σ 8 0 4)) S hG (hZ.2.1 (8, 0) (by decide)) rfl inlX8 (by decide) rfl zw_192 rfl dX8_seekMend_2 ?_
    refine lv_icmp_ne (tgt := 9) hx hb dX8_seekMend_5 (by decide) (fun c1 => ?_) (fun c1 => ?_)
    · have hf := zif_n c1 hf
      refine lv_aload_n hx hb dX8_seekMend_9 rfl (lv_at hl 0 rfl) ?_
      refine lv_iload_n hx hb dX8_seekMend_10 rfl (lv_at hl 1 rfl) ?_
      refine z_putI (c0 := 8) (i0 := 0) (k0 := 4) (T := TX8) S hG hS tyX8 tyX8_ok nmX8 (hZ.2.1 (8, 0) (by decide)) rfl inlX8 (by decide) rfl rfl zw_192 (by decide +kernel) rfl dX8_seekMend_11 (fun H locs hG hS => ?_)
      obtain ⟨σ2, eσ2, hf⟩ := zlt_s hf
      rw [← eσ2] at hG
      refine lv_aload_n hx hb dX8_seekMend_14 rfl (lv_at hl 0 rfl) ?_
      refine lv_aload_n hx hb dX8_seekMend_15 rfl (lv_at hl 2 rfl) ?_
      refine lv_aload_n hx hb dX8_seekMend_16 rfl (lv_at hl 3 rfl) ?_
      refine lv_iload hx hb dX8_seekMend_17 (lv_at hl 4 rfl) ?_
      obtain ⟨q3, eq3, hf⟩ := zbi hf
      refine z_callV (n := 3) (rest := []) (st1 := [.int q3.1]) (c0 := 8) (i0 := 0) (hZ.2.1 (8, 0) (by decide)) (by rfl) S hG hS hZ (fun _ _ h => h) (c_X8_firstBroken l D aC zs A nl ad σ2 x2 x3 x4 q3.1 q3.2 h_x2 h_x3 eq3) zw_1068 zw_979 zw_980 zw_31 zw_981 (by decide +kernel) ⟨rfl, rfl⟩ ⟨(Nat.le_of_ble_eq_true rfl), (Nat.le_of_ble_eq_true rfl)⟩ hl.1 rfl (by rfl) (by rfl) (Nat.le_of_ble_eq_true rfl) dX8_seekMend_19 ⟨Nat.zero_le _, Nat.zero_le _⟩ (fun H locs hz4 hG hS => ?_)
      refine lv_istore (lv' := [(5, .int q3.1), (0, .ref (ad 8 0 0)), (1, .int x1), (2, .ref (ad 7 x2 0)), (3, .ref (ad 0 x3 0)), (4, .int x4)]) hx hb dX8_seekMend_22 hl (by decide) rfl (fun ls hl => ?_)
      refine lv_aload_n hx hb dX8_seekMend_24 rfl (lv_at hl 1 rfl) ?_
      refine lv_iload hx hb dX8_seekMend_25 (lv_at hl 0 rfl) ?_
      refine lv_iconst (v := (-1)) hx hb dX8_seekMend_27 (by decide) ?_
      have Kv7 : ∀ (v7 : Int32) (ls : Array Slot), lv_has ls 11 [(5, .int q3.1), (0, .ref (ad 8 0 0)), (1, .int x1), (2, .ref (ad 7 x2 0)), (3, .ref (ad 0 x3 0)), (4, .int x4)] → ((f_X8_setMend q3.2 v7 (-1) (-1)).bind fun σ48 => (zwh (fun (q : (Int32 × Int32 × zM)) => f_X8_seekMend_L49 x1 x2 x3 x4 3600 q.1 q.2.1 q.2.2) zFu (q3.1, 0, σ48)).bind fun q => some q) = some σ' → zWk p l e ({ frames := 7, cells := 0, slots := 0, locals := 177 } : Room) s m args below meth c A none (fun t => zG D aC A nl ad σ' t t.heap ∧ True) H locs (F0 m 36 ls [.int v7, .ref (ad 8 0 0)]) := by
        intro v7 ls hl hf
        refine lv_iconst (v := (-1)) hx hb dX8_seekMend_36 (by decide) ?_
        refine lv_iconst (v := (-1)) hx hb dX8_seekMend_37 (by decide) ?_
        obtain ⟨σ48, eσ48, hf⟩ := zbi hf
        refine z_callV (n := 3) (rest := []) (st1 := []) (c0 := 8) (i0 := 0) (hZ.2.1 (8, 0) (by decide)) (by rfl) S hG hS hZ (fun _ _ h => h) (c_X8_setMend l D aC zs A nl ad q3.2 v7 (-1) (-1) σ48 eσ48) zw_1069 zw_1070 zw_1071 zw_31 zw_1072 (by decide +kernel) ⟨rfl, rfl⟩ ⟨(Nat.le_of_ble_eq_true rfl), (Nat.le_of_ble_eq_true rfl)⟩ hl.1 rfl (by rfl) (by rfl) (Nat.le_of_ble_eq_true rfl) dX8_seekMend_38 ⟨Nat.zero_le _, Nat.zero_le _⟩ (fun H locs hz49 hG hS => ?_)
        refine lv_sipush (v := 3600) hx hb dX8_seekMend_41 (by decide) ?_
        refine lv_istore (lv' := [(6, .int 3600), (5, .int q3.1), (0, .ref (ad 8 0 0)), (1, .int x1), (2, .ref (ad 7 x2 0)), (3, .ref (ad 0 x3 0)), (4, .int x4)]) hx hb dX8_seekMend_44 hl (by decide) rfl (fun ls hl => ?_)
        refine lv_iconst (v := 0) hx hb dX8_seekMend_46 (by decide) ?_
        refine lv_istore (lv' := [(7, .int 0), (6, .int 3600), (5, .int q3.1), (0, .ref (ad 8 0 0)), (1, .int x1), (2, .ref (ad 7 x2 0)), (3, .ref (ad 0 x3 0)), (4, .int x4)]) hx hb dX8_seekMend_47 hl (by decide) rfl (fun ls hl => ?_)
        obtain ⟨t49, hw49, hfo49⟩ := zbi hf
        have KL49 : ∀ (n : Nat) (y5l49 : Int32) (y7l49 : Int32) (σl49 : zM) (H : Heap) (locs : List Loc) (ls : Array Slot), zG D aC A nl ad σl49 s H → va_S A s.heap H locs → lv_has ls 11 [(0, .ref (ad 8 0 0)), (1, .int x1), (2, .ref (ad 7 x2 0)), (3, .ref (ad 0 x3 0)), (4, .int x4), (6, .int 3600), (5, .int y5l49), (7, .int y7l49)] → zwh (fun (q : (Int32 × Int32 × zM)) => f_X8_seekMend_L49 x1 x2 x3 x4 3600 q.1 q.2.1 q.2.2) n (y5l49, y7l49, σl49) = some t49 → zWk p l e ({ frames := 7, cells := 0, slots := 0, locals := 177 } : Room) s m args below meth c A none (fun t => zG D aC A nl ad σ' t t.heap ∧ True) H locs (F0 m 49 ls []) := by
          intro n
          induction n with
          | zero =>
            intro y5l49 y7l49 σl49 H locs ls hG hS hl hw
            exact (zwh_0 hw).elim
          | succ n ih49 =>
            intro y5l49 y7l49 σl49 H locs ls hG hS hl hw
            obtain ⟨rr49, hf, hk49⟩ := zwh_u hw
            have hf : f_X8_seekMend_L49 x1 x2 x3 x4 3600 y5l49 y7l49 σl49 = some rr49 := hf
            unfold f_X8_seekMend_L49 at hf
            have KJ156_49 : ∀ (y5b156 : Int32) (y7b156 : Int32)  (σb156_49 : zM) (H : Heap) (locs : List Loc) (ls : Array Slot), zG D aC A nl ad σb156_49 s H → va_S A s.heap H locs → lv_has ls 11 [(0, .ref (ad 8 0 0)), (1, .int x1), (2, .ref (ad 7 x2 0)), (3, .ref (ad 0 x3 0)), (4, .int x4), (5, .int y5b156), (6, .int 3600), (7, .int y7b156)] → (f_X8_seekMend_B156_49 σb156_49 x1 x2 x3 x4 y5b156 3600 y7b156) = some rr49 → zWk p l e ({ frames := 7, cells := 0, slots := 0, locals := 177 } : Room) s m args below meth c A none (fun t => zG D aC A nl ad σ' t t.heap ∧ True) H locs (F0 m 156 ls []) := by
              intro y5b156 y7b156  σb156_49 H locs ls hG hS hl hf
              unfold f_X8_seekMend_B156_49 at hf
              refine lv_iinc (v := (y7b156 + 1)) (lv' := [(7, .int (y7b156 + 1)), (0, .ref (ad 8 0 0)), (1, .int x1), (2, .ref (ad 7 x2 0)), (3, .ref (ad 0 x3 0)), (4, .int x4), (5, .int y5b156), (6, .int 3600)]) hx hb dX8_seekMend_156 hl (k := 7) rfl rfl (by decide) rfl (fun ls hl => ?_)
              refine lv_goto (tgt := 49) hx hb dX8_seekMend_159 (by decide) ?_
              cases hf
              exact ih49 y5b156 (y7b156 + 1) σb156_49 H locs ls hG hS (lv_sub hl [1, 2, 3, 4, 5, 7, 6, 0] rfl) hk49
            have KJ133_49 : ∀ (y5b133 : Int32) (y7b133 : Int32) (y8b133 : Int32) (y9b133 : Int32) (y10b133 : Int32)  (σb133_49 : zM) (H : Heap) (locs : List Loc) (ls : Array Slot), zG D aC A nl ad σb133_49 s H → va_S A s.heap H locs → lv_has ls 11 [(0, .ref (ad 8 0 0)), (1, .int x1), (2, .ref (ad 7 x2 0)), (3, .ref (ad 0 x3 0)), (4, .int x4), (5, .int y5b133), (6, .int 3600), (7, .int y7b133), (8, .int y8b133), (9, .int y9b133), (10, .int y10b133)] → (f_X8_seekMend_B133_49 σb133_49 x1 x2 x3 x4 y5b133 3600 y7b133 y8b133 y9b133 y10b133) = some rr49 → zWk p l e ({ frames := 7, cells := 0, slots := 0, locals := 177 } : Room) s m args below meth c A none (fun t => zG D aC A nl ad σ' t t.heap ∧ True) H locs (F0 m 133 ls []) := by
              intro y5b133 y7b133 y8b133 y9b133 y10b133  σb133_49 H locs ls hG hS hl hf
              unfold f_X8_seekMend_B133_49 at hf
              refine lv_aload_n hx hb dX8_seekMend_133 rfl (lv_at hl 2 rfl) ?_
              refine lv_iload hx hb dX8_seekMend_134 (lv_at hl 8 rfl) ?_
              refine lv_iload hx hb dX8_seekMend_136 (lv_at hl 10 rfl) ?_
              obtain ⟨σ81, eσ81, hf⟩ := zbi hf
              refine z_callV (n := 2) (rest := []) (st1 := []) (c0 := 7) (i0 := x2) h_x2 (by rfl) S hG hS hZ (fun _ _ h => h) (c_X7_put l D aC zs A nl ad σb133_49 x2 y8b133 y10b133 σ81 h_x2 eσ81) zw_1076 zw_824 zw_825 zw_783 zw_826 (by decide +kernel) ⟨rfl, rfl⟩ ⟨(Nat.le_of_ble_eq_true rfl), (Nat.le_of_ble_eq_true rfl)⟩ hl.1 rfl (by rfl) (by rfl) (Nat.le_of_ble_eq_true rfl) dX8_seekMend_138 ⟨Nat.zero_le _, Nat.zero_le _⟩ (fun H locs hz82 hG hS => ?_)
              refine lv_iload hx hb dX8_seekMend_141 (lv_at hl 5 rfl) ?_
              refine lv_iconst (v := (-1)) hx hb dX8_seekMend_143 (by decide) ?_
              refine lv_icmp_ne (tgt := 156) hx hb dX8_seekMend_144 (by decide) (fun c83 => ?_) (fun c83 => ?_)
              · have hf := zif_n c83 hf
                exact KJ156_49 y5b133 y7b133 σ81 H locs ls hG hS (lv_sub hl [0, 1, 2, 3, 4, 5, 6, 7] rfl) hf
              · have hf := zif_p c83 hf
                refine lv_aload_n hx hb dX8_seekMend_147 rfl (lv_at hl 0 rfl) ?_
                refine lv_iconst (v := 1) hx hb dX8_seekMend_148 (by decide) ?_
                refine lv_iload hx hb dX8_seekMend_149 (lv_at hl 8 rfl) ?_
                refine lv_iload hx hb dX8_seekMend_151 (lv_at hl 9 rfl) ?_
                obtain ⟨σ84, eσ84, hf⟩ := zbi hf
                refine z_callV (n := 3) (rest := []) (st1 := []) (c0 := 8) (i0 := 0) (hZ.2.1 (8, 0) (by decide)) (by rfl) S hG hS hZ (fun _ _ h => h) (c_X8_setMend l D aC zs A nl ad σ81 1 y8b133 y9b133 σ84 eσ84) zw_1069 zw_1070 zw_1071 zw_31 zw_1072 (by decide +kernel) ⟨rfl, rfl⟩ ⟨(Nat.le_of_ble_eq_true rfl), (Nat.le_of_ble_eq_true rfl)⟩ hl.1 rfl (by rfl) (by rfl) (Nat.le_of_ble_eq_true rfl) dX8_seekMend_153 ⟨Nat.zero_le _, Nat.zero_le _⟩ (fun H locs hz85 hG hS => ?_)
                exact KJ156_49 y5b133 y7b133 σ84 H locs ls hG hS (lv_sub hl [0, 1, 2, 3, 4, 5, 6, 7] rfl) hf
            refine lv_iload hx hb dX8_seekMend_49 (lv_at hl 7 rfl) ?_
            refine lv_iload hx hb dX8_seekMend_51 (lv_at hl 5 rfl) ?_
            refine lv_icmp_ge (tgt := 162) hx hb dX8_seekMend_53 (by decide) (fun c69 => ?_) (fun c69 => ?_)
            · have hf := zif_p c69 hf
              cases hf
              have hk49 : (σl49 : zM) = t49 := hk49
              have hf := hfo49
              rw [← hk49] at hf
              have hf : (some σl49) = some σ' := hf
              have hq := (Option.some.inj hf)
              subst hq
              exact z_vret S hG hS hlocks trivial hr dX8_seekMend_162
            · have hf := zif_n c69 hf
              refine lv_iload hx hb dX8_seekMend_56 (lv_at hl 6 rfl) ?_
              refine lv_iconst (v := (-1)) hx hb dX8_seekMend_58 (by decide) ?_
              refine lv_icmp_eq (tgt := 162) hx hb dX8_seekMend_59 (by decide) (fun c70 => ?_) (fun c70 => ?_)
              · have hf := zif_p c70 hf
                cases hf
                have hk49 : (σl49 : zM) = t49 := hk49
                have hf := hfo49
                rw [← hk49] at hf
                have hf : (some σl49) = some σ' := hf
                have hq := (Option.some.inj hf)
                subst hq
                exact z_vret S hG hS hlocks trivial hr dX8_seekMend_162
              · have hf := zif_n c70 hf
                refine lv_iload hx hb dX8_seekMend_62 (lv_at hl 7 rfl) ?_
                refine lv_bipush (v := 15) hx hb dX8_seekMend_64 (by decide) ?_
                refine lv_idiv hx hb dX8_seekMend_66 (by decide) ?_
                refine lv_istore (lv' := [(8, .int (y7l49 / 15)), (0, .ref (ad 8 0 0)), (1, .int x1), (2, .ref (ad 7 x2 0)), (3, .ref (ad 0 x3 0)), (4, .int x4), (6, .int 3600), (5, .int y5l49), (7, .int y7l49)]) hx hb dX8_seekMend_67 hl (by decide) rfl (fun ls hl => ?_)
                refine lv_iload hx hb dX8_seekMend_69 (lv_at hl 8 rfl) ?_
                refine lv_bipush (v := 15) hx hb dX8_seekMend_71 (by decide) ?_
                refine z_irem (v := (zrem y7l49 15)) hx hb dX8_seekMend_73 (by decide) rfl ?_
                refine lv_istore (lv' := [(9, .int (zrem y7l49 15)), (8, .int (y7l49 / 15)), (0, .ref (ad 8 0 0)), (1, .int x1), (2, .ref (ad 7 x2 0)), (3, .ref (ad 0 x3 0)), (4, .int x4), (6, .int 3600), (5, .int y5l49), (7, .int y7l49)]) hx hb dX8_seekMend_74 hl (by decide) rfl (fun ls hl => ?_)
                refine lv_aload_n hx hb dX8_seekMend_76 rfl (lv_at hl 4 rfl) ?_
                refine lv_iload hx hb dX8_seekMend_77 (lv_at hl 1 rfl) ?_
                obtain ⟨r71, er71, hf⟩ := zbi hf
                refine z_callV (n := 1) (rest := []) (st1 := [.int r71]) (c0 := 7) (i0 := x2) h_x2 (by rfl) S hG hS hZ (fun _ _ h => h) (c_X7_thingAt l D aC zs A nl ad σl49 x2 (y7l49 / 15) r71 h_x2 er71) zw_881 zw_830 zw_831 zw_783 zw_832 (by decide +kernel) ⟨rfl, rfl⟩ ⟨(Nat.le_of_ble_eq_true rfl), (Nat.le_of_ble_eq_true rfl)⟩ hl.1 rfl (by rfl) (by rfl) (Nat.le_of_ble_eq_true rfl) dX8_seekMend_79 ⟨Nat.zero_le _, Nat.zero_le _⟩ (fun H locs hz72 hG hS => ?_)
                refine lv_istore (lv' := [(10, .int r71), (9, .int (zrem y7l49 15)), (8, .int (y7l49 / 15)), (0, .ref (ad 8 0 0)), (1, .int x1), (2, .ref (ad 7 x2 0)), (3, .ref (ad 0 x3 0)), (4, .int x4), (6, .int 3600), (5, .int y5l49), (7, .int y7l49)]) hx hb dX8_seekMend_82 hl (by decide) rfl (fun ls hl => ?_)
                refine lv_iload hx hb dX8_seekMend_84 (lv_at hl 1 rfl) ?_
                refine lv_iload hx hb dX8_seekMend_86 (lv_at hl 0 rfl) ?_
                refine lv_icmp_eq (tgt := 156) hx hb dX8_seekMend_88 (by decide) (fun c73 => ?_) (fun c73 => ?_)
                · have hf := zif_p c73 hf
                  exact KJ156_49 y5l49 y7l49 σl49 H locs ls hG hS (lv_sub hl [3, 4, 5, 6, 7, 9, 8, 10] rfl) hf
                · have hf := zif_n c73 hf
                  refine lv_iload hx hb dX8_seekMend_91 (lv_at hl 2 rfl) ?_
                  refine z_callS (n := 1) (rest := []) (st1 := [.int (f_X7_isInside (y7l49 / 15))]) S hG hS hZ (fun _ _ h => h) (c_X7_isInside l D aC zs A nl ad σl49 (y7l49 / 15) (f_X7_isInside (y7l49 / 15)) rfl) zw_1073 zw_1074 zw_783 zw_1075 (by decide +kernel) ⟨rfl, rfl⟩ ⟨(Nat.le_of_ble_eq_true rfl), (Nat.le_of_ble_eq_true rfl)⟩ hl.1 rfl (by rfl) (by rfl) (Nat.le_of_ble_eq_true rfl) dX8_seekMend_93 ⟨Nat.zero_le _, Nat.zero_le _⟩ (fun H locs hz74 hG hS => ?_)
                  refine lv_if_ne (tgt := 102) hx hb dX8_seekMend_96 (by decide) (fun c75 => ?_) (fun c75 => ?_)
                  · have hf := zif_n c75 hf
                    refine lv_aload_n hx hb dX8_seekMend_102 rfl (lv_at hl 5 rfl) ?_
                    refine lv_iload hx hb dX8_seekMend_103 (lv_at hl 2 rfl) ?_
                    refine lv_iload hx hb dX8_seekMend_105 (lv_at hl 1 rfl) ?_
                    obtain ⟨σ76, eσ76, hf⟩ := zbi hf
                    refine z_callV (n := 2) (rest := []) (st1 := []) (c0 := 7) (i0 := x2) h_x2 (by rfl) S hG hS hZ (fun _ _ h => h) (c_X7_put l D aC zs A nl ad σl49 x2 (y7l49 / 15) (zrem y7l49 15) σ76 h_x2 eσ76) zw_1076 zw_824 zw_825 zw_783 zw_826 (by decide +kernel) ⟨rfl, rfl⟩ ⟨(Nat.le_of_ble_eq_true rfl), (Nat.le_of_ble_eq_true rfl)⟩ hl.1 rfl (by rfl) (by rfl) (Nat.le_of_ble_eq_true rfl) dX8_seekMend_107 ⟨Nat.zero_le _, Nat.zero_le _⟩ (fun H locs hz77 hG hS => ?_)
                    refine lv_aload_n hx hb dX8_seekMend_110 rfl (lv_at hl 3 rfl) ?_
                    refine lv_aload_n hx hb dX8_seekMend_111 rfl (lv_at hl 5 rfl) ?_
                    refine lv_aload_n hx hb dX8_seekMend_112 rfl (lv_at hl 6 rfl) ?_
                    refine lv_iload hx hb dX8_seekMend_113 (lv_at hl 9 rfl) ?_
                    refine lv_iload hx hb dX8_seekMend_115 (lv_at hl 7 rfl) ?_
                    obtain ⟨q78, eq78, hf⟩ := zbi hf
                    refine z_callV (n := 4) (rest := []) (st1 := [.int q78.1]) (c0 := 8) (i0 := 0) (hZ.2.1 (8, 0) (by decide)) (by rfl) S hG hS hZ (fun _ _ h => h) (c_X8_breaks l D aC zs A nl ad σ76 x2 x3 y5l49 x4 q78.1 q78.2 h_x2 h_x3 eq78) zw_983 zw_984 zw_985 zw_31 zw_986 (by decide +kernel) ⟨rfl, rfl⟩ ⟨(Nat.le_of_ble_eq_true rfl), (Nat.le_of_ble_eq_true rfl)⟩ hl.1 rfl (by rfl) (by rfl) (Nat.le_of_ble_eq_true rfl) dX8_seekMend_117 ⟨Nat.zero_le _, Nat.zero_le _⟩ (fun H locs hz79 hG hS => ?_)
                    refine lv_if_ne (tgt := 133) hx hb dX8_seekMend_120 (by decide) (fun c80 => ?_) (fun c80 => ?_)
                    · have hf := zif_n c80 hf
                      exact KJ133_49 y5l49 y7l49 (y7l49 / 15) (zrem y7l49 15) r71 q78.2 H locs ls hG hS (lv_sub hl [3, 4, 5, 6, 7, 9, 8, 10, 2, 1, 0] rfl) hf
                    · have hf := zif_p c80 hf
                      refine lv_aload_n hx hb dX8_seekMend_123 rfl (lv_at hl 3 rfl) ?_
                      refine lv_aload_n hx hb dX8_seekMend_124 rfl (lv_at hl 5 rfl) ?_
                      refine lv_aload_n hx hb dX8_seekMend_125 rfl (lv_at hl 6 rfl) ?_
                      refine lv_iload hx hb dX8_seekMend_126 (lv_at hl 7 rfl) ?_
                      obtain ⟨q86, eq86, hf⟩ := zbi hf
                      refine z_callV (n := 3) (rest := []) (st1 := [.int q86.1]) (c0 := 8) (i0 := 0) (hZ.2.1 (8, 0) (by decide)) (by rfl) S hG hS hZ (fun _ _ h => h) (c_X8_firstBroken l D aC zs A nl ad q78.2 x2 x3 x4 q86.1 q86.2 h_x2 h_x3 eq86) zw_1068 zw_979 zw_980 zw_31 zw_981 (by decide +kernel) ⟨rfl, rfl⟩ ⟨(Nat.le_of_ble_eq_true rfl), (Nat.le_of_ble_eq_true rfl)⟩ hl.1 rfl (by rfl) (by rfl) (Nat.le_of_ble_eq_true rfl) dX8_seekMend_128 ⟨Nat.zero_le _, Nat.zero_le _⟩ (fun H locs hz87 hG hS => ?_)
                      refine lv_istore (lv' := [(5, .int q86.1), (10, .int r71), (9, .int (zrem y7l49 15)), (8, .int (y7l49 / 15)), (0, .ref (ad 8 0 0)), (1, .int x1), (2, .ref (ad 7 x2 0)), (3, .ref (ad 0 x3 0)), (4, .int x4), (6, .int 3600), (7, .int y7l49)]) hx hb dX8_seekMend_131 hl (by decide) rfl (fun ls hl => ?_)
                      exact KJ133_49 q86.1 y7l49 (y7l49 / 15) (zrem y7l49 15) r71 q86.2 H locs ls hG hS (lv_sub hl [4, 5, 6, 7, 8, 0, 9, 10, 3, 2, 1] rfl) hf
                  · have hf := zif_p c75 hf
                    refine lv_goto (tgt := 156) hx hb dX8_seekMend_99 (by decide) ?_
                    exact KJ156_49 y5l49 y7l49 σl49 H locs ls hG hS (lv_sub hl [3, 4, 5, 6, 7, 9, 8, 10] rfl) hf
        exact KL49 zFu q3.1 0 σ48 H locs ls hG hS (lv_sub hl [3, 4, 5, 6, 7, 1, 2, 0] rfl) hw49
      refine lv_icmp_ne (tgt := 35) hx hb dX8_seekMend_28 (by decide) (fun c6 => ?_) (fun c6 => ?_)
      · rw [if_neg c6] at hf
        refine lv_iconst (v := 2) hx hb dX8_seekMend_35 (by decide) ?_
        exact Kv7 _ ls hl hf
      · rw [if_pos c6] at hf
        refine lv_iconst (v := 0) hx hb dX8_seekMend_31 (by decide) ?_
        refine lv_goto (tgt := 36) hx hb dX8_seekMend_32 (by decide) ?_
        exact Kv7 _ ls hl hf
    · have hf := zif_p c1 hf
      have hq := (Option.some.inj hf)
      subst hq
      exact z_vret S hG hS hlocks trivial hr dX8_seekMend_8
  exact hK0 _ _ ls hG hS hl hf
set_option maxRecDepth 100000 in
set_option maxHeartbeats 4000000 in
theorem c_X9_hasRoomFor (l : Launch) (D : va_G) (aC : Nat → ClassId) (zs : Nat × Nat) (A : Nat → Prop) (nl : zNL) (ad : Nat → Nat → Nat → Nat) (σ : zM) (x1 : Int32) (r : Int32)  (hf : f_X9_hasRoomFor σ x1 = r) : Met l yX9_hasRoomFor (Cond.code yX9_hasRoomFor cX9_hasRoomFor 2 (some .boolean) :: wsL_law) ({ frames := 0, cells := 0, slots := 0, locals := 0 } : Room) (zP D aC zs zfX A nl ad σ [.ref (ad 9 0 0), .int x1]) (zQ (some (.int r)) (fun t => zG D aC A nl ad σ t t.heap ∧ (r = 0 ∨ r = 1)) A) 0 0 A := by
  refine Met.ofW (cc := cX9_hasRoomFor) (maxL := 2) (ret := (some .boolean)) (by decide) rfl ?_
  intro p e s m args below meth c s₁ B hml hv
  obtain ⟨rfl, hG, hZ⟩ := hv
  have hx := B.exec
  have hb := B.bytes
  have hr := B.returns
  have hts : ∀ w ∈ wsL_law, w.before ([.ref (ad 9 0 0), .int x1] : List Value).toArray s = true := fun w h => (atoms_spec B.pre) w (List.mem_cons_of_mem _ h)
  have hown : s.vm.findClass RX9 = some m.cls := findClass_of_methodNamed B.named
  have hlocks := B.notSynchronized
  have S : zS p m c cX9_hasRoomFor 2 s ([.ref (ad 9 0 0), .int x1] : List Value).toArray RX9 := ⟨hx, hb, hml, hown, hts⟩
  have hS : va_S A s.heap s.heap [] := va_S.rf
  have hl := lv_entry ([.ref (ad 9 0 0), .int x1]) (n := 2) (Nat.le_of_ble_eq_true rfl)
  rw [lg_entry_eq]
  generalize (lg_sl ([.ref (ad 9 0 0), .int x1]) ++ List.replicate (2 - (lg_sl ([.ref (ad 9 0 0), .int x1])).length) Slot.unset).toArray = ls at hl ⊢
  have hl : lv_has ls 2 [(0, .ref (ad 9 0 0)), (1, .int x1)] := hl
  generalize hargs : ([.ref (ad 9 0 0), .int x1] : List Value).toArray = args at S hts ⊢
  clear hargs
  have hK0 : ∀ (H : Heap) (locs : List Loc) (ls : Array Slot), zG D aC A nl ad σ s H → va_S A s.heap H locs → lv_has ls 2 [(0, .ref (ad 9 0 0)), (1, .int x1)] → f_X9_hasRoomFor σ x1 = r → zWk p l e ({ frames := 0, cells := 0, slots := 0, locals := 0 } : Room) s m args below meth c A (some (.int r)) (fun t => zG D aC A nl ad σ t t.heap ∧ (r = 0 ∨ r = 1)) H locs (F0 m 0 ls []) := by
    intro H locs ls hG hS hl hf
    unfold f_X9_hasRoomFor at hf
    refine lv_aload_n hx hb dX9_hasRoomFor_0 rfl (lv_at hl 0 rfl) ?_
    refine z_get (c0 := 9) (i0 := 0) (k0 := 1) (T := TX9) (v := .int (zI σ 9 0 1)) S hG (hZ.2.1 (9, 0) (by decide)) rfl inlX9 (by decide) rfl zw_62 rfl dX9_hasRoomFor_1 ?_
    refine lv_iload_n hx hb dX9_hasRoomFor_4 rfl (lv_at hl 1 rfl) ?_
    refine lv_iadd hx hb dX9_hasRoomFor_5 ?_
    refine lv_sipush (v := 900) hx hb dX9_hasRoomFor_6 (by decide) ?_
    refine lv_icmp_gt (tgt := 16) hx hb dX9_hasRoomFor_9 (by decide) (fun c1 => ?_) (fun c1 => ?_)
    · have hf := zif_p c1 hf
      refine lv_iconst (v := 0) hx hb dX9_hasRoomFor_16 (by decide) ?_
      have hq := hf
      subst hq
      exact z_zret S hG hS hlocks (Or.inl rfl) hr dX9_hasRoomFor_17
    · have hf := zif_n c1 hf
      refine lv_iconst (v := 1) hx hb dX9_hasRoomFor_12 (by decide) ?_
      refine lv_goto (tgt := 17) hx hb dX9_hasRoomFor_13 (by decide) ?_
      have hq := hf
      subst hq
      exact z_zret S hG hS hlocks (Or.inr rfl) hr dX9_hasRoomFor_17
  exact hK0 _ _ ls hG hS hl hf
set_option maxRecDepth 100000 in
set_option maxHeartbeats 4000000 in
theorem c_X9_holds (l : Launch) (D : va_G) (aC : Nat → ClassId) (zs : Nat × Nat) (A : Nat → Prop) (nl : zNL) (ad : Nat → Nat → Nat → Nat) (σ : zM) (x1 : Int32) (r : Int32)  (hf : f_X9_holds σ x1 = r) : Met l yX9_holds (Cond.code yX9_holds cX9_holds 2 (some .boolean) :: wsL_law) ({ frames := 0, cells := 0, slots := 0, locals := 0 } : Room) (zP D aC zs zfX A nl ad σ [.ref (ad 9 0 0), .int x1]) (zQ (some (.int r)) (fun t => zG D aC A nl ad σ t t.heap ∧ (r = 0 ∨ r = 1)) A) 0 0 A := by
  refine Met.ofW (cc := cX9_holds) (maxL := 2) (ret := (some .boolean)) (by decide) rfl ?_
  intro p e s m args below meth c s₁ B hml hv
  obtain ⟨rfl, hG, hZ⟩ := hv
  have hx := B.exec
  have hb := B.bytes
  have hr := B.returns
  have hts : ∀ w ∈ wsL_law, w.before ([.ref (ad 9 0 0), .int x1] : List Value).toArray s = true := fun w h => (atoms_spec B.pre) w (List.mem_cons_of_mem _ h)
  have hown : s.vm.findClass RX9 = some m.cls := findClass_of_methodNamed B.named
  have hlocks := B.notSynchronized
  have S : zS p m c cX9_holds 2 s ([.ref (ad 9 0 0), .int x1] : List Value).toArray RX9 := ⟨hx, hb, hml, hown, hts⟩
  have hS : va_S A s.heap s.heap [] := va_S.rf
  have hl := lv_entry ([.ref (ad 9 0 0), .int x1]) (n := 2) (Nat.le_of_ble_eq_true rfl)
  rw [lg_entry_eq]
  generalize (lg_sl ([.ref (ad 9 0 0), .int x1]) ++ List.replicate (2 - (lg_sl ([.ref (ad 9 0 0), .int x1])).length) Slot.unset).toArray = ls at hl ⊢
  have hl : lv_has ls 2 [(0, .ref (ad 9 0 0)), (1, .int x1)] := hl
  generalize hargs : ([.ref (ad 9 0 0), .int x1] : List Value).toArray = args at S hts ⊢
  clear hargs
  have hK0 : ∀ (H : Heap) (locs : List Loc) (ls : Array Slot), zG D aC A nl ad σ s H → va_S A s.heap H locs → lv_has ls 2 [(0, .ref (ad 9 0 0)), (1, .int x1)] → f_X9_holds σ x1 = r → zWk p l e ({ frames := 0, cells := 0, slots := 0, locals := 0 } : Room) s m args below meth c A (some (.int r)) (fun t => zG D aC A nl ad σ t t.heap ∧ (r = 0 ∨ r = 1)) H locs (F0 m 0 ls []) := by
    intro H locs ls hG hS hl hf
    unfold f_X9_holds at hf
    refine lv_iload_n hx hb dX9_holds_0 rfl (lv_at hl 1 rfl) ?_
    refine lv_if_lt (tgt := 16) hx hb dX9_holds_1 (by decide) (fun c1 => ?_) (fun c1 => ?_)
    · have hf := zif_p c1 hf
      refine lv_iconst (v := 0) hx hb dX9_holds_16 (by decide) ?_
      have hq := hf
      subst hq
      exact z_zret S hG hS hlocks (Or.inl rfl) hr dX9_holds_17
    · have hf := zif_n c1 hf
      refine lv_iload_n hx hb dX9_holds_4 rfl (lv_at hl 1 rfl) ?_
      refine lv_aload_n hx hb dX9_holds_5 rfl (lv_at hl 0 rfl) ?_
      refine z_get (c0 := 9) (i0 := 0) (k0 := 1) (T := TX9) (v := .int (zI σ 9 0 1)) S hG (hZ.2.1 (9, 0) (by decide)) rfl inlX9 (by decide) rfl zw_62 rfl dX9_holds_6 ?_
      refine lv_icmp_gt (tgt := 16) hx hb dX9_holds_9 (by decide) (fun c2 => ?_) (fun c2 => ?_)
      · have hf := zif_p c2 hf
        refine lv_iconst (v := 0) hx hb dX9_holds_16 (by decide) ?_
        have hq := hf
        subst hq
        exact z_zret S hG hS hlocks (Or.inl rfl) hr dX9_holds_17
      · have hf := zif_n c2 hf
        refine lv_iconst (v := 1) hx hb dX9_holds_12 (by decide) ?_
        refine lv_goto (tgt := 17) hx hb dX9_holds_13 (by decide) ?_
        have hq := hf
        subst hq
        exact z_zret S hG hS hlocks (Or.inr rfl) hr dX9_holds_17
  exact hK0 _ _ ls hG hS hl hf
set_option maxRecDepth 100000 in
set_option maxHeartbeats 4000000 in
theorem c_X9_add (l : Launch) (D : va_G) (aC : Nat → ClassId) (zs : Nat × Nat) (A : Nat → Prop) (nl : zNL) (ad : Nat → Nat → Nat → Nat) (σ : zM) (x1 : Int32)  (σ' : zM)  (hf : f_X9_add σ x1 = some σ') : Met l yX9_add (Cond.code yX9_add cX9_add 3 none :: wsL_law) ({ frames := 0, cells := 0, slots := 0, locals := 0 } : Room) (zP D aC zs zfX A nl ad σ [.ref (ad 9 0 0), .int x1]) (zQ none (fun t => zG D aC A nl ad σ' t t.heap ∧ True) A) 0 0 A := by
  refine Met.ofW (cc := cX9_add) (maxL := 3) (ret := none) (by decide) rfl ?_
  intro p e s m args below meth c s₁ B hml hv
  obtain ⟨rfl, hG, hZ⟩ := hv
  have hx := B.exec
  have hb := B.bytes
  have hr := B.returns
  have hts : ∀ w ∈ wsL_law, w.before ([.ref (ad 9 0 0), .int x1] : List Value).toArray s = true := fun w h => (atoms_spec B.pre) w (List.mem_cons_of_mem _ h)
  have hown : s.vm.findClass RX9 = some m.cls := findClass_of_methodNamed B.named
  have hlocks := B.notSynchronized
  have S : zS p m c cX9_add 3 s ([.ref (ad 9 0 0), .int x1] : List Value).toArray RX9 := ⟨hx, hb, hml, hown, hts⟩
  have hS : va_S A s.heap s.heap [] := va_S.rf
  have hl := lv_entry ([.ref (ad 9 0 0), .int x1]) (n := 3) (Nat.le_of_ble_eq_true rfl)
  rw [lg_entry_eq]
  generalize (lg_sl ([.ref (ad 9 0 0), .int x1]) ++ List.replicate (3 - (lg_sl ([.ref (ad 9 0 0), .int x1])).length) Slot.unset).toArray = ls at hl ⊢
  have hl : lv_has ls 3 [(0, .ref (ad 9 0 0)), (1, .int x1)] := hl
  generalize hargs : ([.ref (ad 9 0 0), .int x1] : List Value).toArray = args at S hts ⊢
  clear hargs
  have hK0 : ∀ (H : Heap) (locs : List Loc) (ls : Array Slot), zG D aC A nl ad σ s H → va_S A s.heap H locs → lv_has ls 3 [(0, .ref (ad 9 0 0)), (1, .int x1)] → f_X9_add σ x1 = some σ' → zWk p l e ({ frames := 0, cells := 0, slots := 0, locals := 0 } : Room) s m args below meth c A none (fun t => zG D aC A nl ad σ' t t.heap ∧ True) H locs (F0 m 0 ls []) := by
    intro H locs ls hG hS hl hf
    unfold f_X9_add at hf
    refine lv_bipush (v := 24) hx hb dX9_add_0 (by decide) ?_
    refine lv_istore_n (lv' := [(2, .int 24), (0, .ref (ad 9 0 0)), (1, .int x1)]) hx hb dX9_add_2 rfl hl (by decide) rfl (fun ls hl => ?_)
    obtain ⟨t3, hw3, hfo3⟩ := zbi hf
    have KL3 : ∀ (n : Nat) (y2l3 : Int32) (σl3 : zM) (H : Heap) (locs : List Loc) (ls : Array Slot), zG D aC A nl ad σl3 s H → va_S A s.heap H locs → lv_has ls 3 [(0, .ref (ad 9 0 0)), (1, .int x1), (2, .int y2l3)] → zwh (fun (q : (Int32 × zM)) => f_X9_add_L3 x1 q.1 q.2) n (y2l3, σl3) = some t3 → zWk p l e ({ frames := 0, cells := 0, slots := 0, locals := 0 } : Room) s m args below meth c A none (fun t => zG D aC A nl ad σ' t t.heap ∧ True) H locs (F0 m 3 ls []) := by
      intro n
      induction n with
      | zero =>
        intro y2l3 σl3 H locs ls hG hS hl hw
        exact (zwh_0 hw).elim
      | succ n ih3 =>
        intro y2l3 σl3 H locs ls hG hS hl hw
        obtain ⟨rr3, hf, hk3⟩ := zwh_u hw
        have hf : f_X9_add_L3 x1 y2l3 σl3 = some rr3 := hf
        unfold f_X9_add_L3 at hf
        have KJ52_3 : ∀ (y2b52 : Int32)  (σb52_3 : zM) (H : Heap) (locs : List Loc) (ls : Array Slot), zG D aC A nl ad σb52_3 s H → va_S A s.heap H locs → lv_has ls 3 [(0, .ref (ad 9 0 0)), (1, .int x1), (2, .int y2b52)] → (f_X9_add_B52_3 σb52_3 x1 y2b52) = some rr3 → zWk p l e ({ frames := 0, cells := 0, slots := 0, locals := 0 } : Room) s m args below meth c A none (fun t => zG D aC A nl ad σ' t t.heap ∧ True) H locs (F0 m 52 ls []) := by
          intro y2b52  σb52_3 H locs ls hG hS hl hf
          unfold f_X9_add_B52_3 at hf
          refine lv_iinc (v := (y2b52 + (-8))) (lv' := [(2, .int (y2b52 + (-8))), (0, .ref (ad 9 0 0)), (1, .int x1)]) hx hb dX9_add_52 hl (k := 2) rfl rfl (by decide) rfl (fun ls hl => ?_)
          refine lv_goto (tgt := 3) hx hb dX9_add_55 (by decide) ?_
          cases hf
          exact ih3 (y2b52 + (-8)) σb52_3 H locs ls hG hS (lv_sub hl [1, 2, 0] rfl) hk3
        refine lv_iload_n hx hb dX9_add_3 rfl (lv_at hl 2 rfl) ?_
        refine lv_if_lt (tgt := 58) hx hb dX9_add_4 (by decide) (fun c7 => ?_) (fun c7 => ?_)
        · have hf := zif_p c7 hf
          cases hf
          have hk3 : (σl3 : zM) = t3 := hk3
          have hf := hfo3
          rw [← hk3] at hf
          have hf : (some σl3) = some σ' := hf
          have hq := (Option.some.inj hf)
          subst hq
          exact z_vret S hG hS hlocks trivial hr dX9_add_58
        · have hf := zif_n c7 hf
          refine lv_aload_n hx hb dX9_add_7 rfl (lv_at hl 0 rfl) ?_
          refine z_get (c0 := 9) (i0 := 0) (k0 := 1) (T := TX9) (v := .int (zI σl3 9 0 1)) S hG (hZ.2.1 (9, 0) (by decide)) rfl inlX9 (by decide) rfl zw_62 rfl dX9_add_8 ?_
          refine lv_if_lt (tgt := 52) hx hb dX9_add_11 (by decide) (fun c8 => ?_) (fun c8 => ?_)
          · have hf := zif_p c8 hf
            exact KJ52_3 y2l3 σl3 H locs ls hG hS (lv_sub hl [0, 1, 2] rfl) hf
          · have hf := zif_n c8 hf
            refine lv_aload_n hx hb dX9_add_14 rfl (lv_at hl 0 rfl) ?_
            refine z_get (c0 := 9) (i0 := 0) (k0 := 1) (T := TX9) (v := .int (zI σl3 9 0 1)) S hG (hZ.2.1 (9, 0) (by decide)) rfl inlX9 (by decide) rfl zw_62 rfl dX9_add_15 ?_
            refine lv_aload_n hx hb dX9_add_18 rfl (lv_at hl 0 rfl) ?_
            refine z_get (c0 := 9) (i0 := 0) (k0 := 0) (T := TX9) (v := .ref (ad 9 0 1)) S hG (hZ.2.1 (9, 0) (by decide)) rfl inlX9 (by decide) rfl zw_61 rfl dX9_add_19 ?_
            refine z_alen (c0 := 9) (i0 := 0) (k0 := 0) (n := 4) (v := 900) S hG (hZ.2.1 (9, 0) (by decide)) (by decide) rfl (by decide) (by rfl) dX9_add_22 ?_
            refine lv_icmp_ge (tgt := 52) hx hb dX9_add_23 (by decide) (fun c9 => ?_) (fun c9 => ?_)
            · have hf := zif_p c9 hf
              exact KJ52_3 y2l3 σl3 H locs ls hG hS (lv_sub hl [0, 1, 2] rfl) hf
            · have hf := zif_n c9 hf
              refine lv_aload_n hx hb dX9_add_26 rfl (lv_at hl 0 rfl) ?_
              refine z_get (c0 := 9) (i0 := 0) (k0 := 0) (T := TX9) (v := .ref (ad 9 0 1)) S hG (hZ.2.1 (9, 0) (by decide)) rfl inlX9 (by decide) rfl zw_61 rfl dX9_add_27 ?_
              refine lv_aload_n hx hb dX9_add_30 rfl (lv_at hl 0 rfl) ?_
              refine z_get (c0 := 9) (i0 := 0) (k0 := 1) (T := TX9) (v := .int (zI σl3 9 0 1)) S hG (hZ.2.1 (9, 0) (by decide)) rfl inlX9 (by decide) rfl zw_62 rfl dX9_add_31 ?_
              refine lv_iload_n hx hb dX9_add_34 rfl (lv_at hl 1 rfl) ?_
              refine lv_iload_n hx hb dX9_add_35 rfl (lv_at hl 2 rfl) ?_
              refine lv_iushr (v := (zushr x1 y2l3)) hx hb dX9_add_36 rfl ?_
              refine lv_sipush (v := 255) hx hb dX9_add_37 (by decide) ?_
              refine lv_iand hx hb dX9_add_40 ?_
              obtain ⟨i10, hi10, hf⟩ := zbi hf
              refine z_iast (c0 := 9) (i0 := 0) (k0 := 0) S hG hS (hZ.2.1 (9, 0) (by decide)) (by decide) rfl hi10 dX9_add_41 (fun H locs hG hS => ?_)
              obtain ⟨σ11, eσ11, hf⟩ := zlt_s hf
              rw [← eσ11] at hG
              refine lv_aload_n hx hb dX9_add_42 rfl (lv_at hl 0 rfl) ?_
              refine lv_dup hx hb dX9_add_43 rfl ?_
              refine z_get (c0 := 9) (i0 := 0) (k0 := 1) (T := TX9) (v := .int (zI σ11 9 0 1)) S hG (hZ.2.1 (9, 0) (by decide)) rfl inlX9 (by decide) rfl zw_62 rfl dX9_add_44 ?_
              refine lv_iconst (v := 1) hx hb dX9_add_47 (by decide) ?_
              refine lv_iadd hx hb dX9_add_48 ?_
              refine z_putI (c0 := 9) (i0 := 0) (k0 := 1) (T := TX9) S hG hS tyX9 tyX9_ok nmX9 (hZ.2.1 (9, 0) (by decide)) rfl inlX9 (by decide) rfl rfl zw_62 (by decide +kernel) rfl dX9_add_49 (fun H locs hG hS => ?_)
              obtain ⟨σ12, eσ12, hf⟩ := zlt_s hf
              rw [← eσ12] at hG
              exact KJ52_3 y2l3 σ12 H locs ls hG hS (lv_sub hl [0, 1, 2] rfl) hf
    exact KL3 zFu 24 σ H locs ls hG hS (lv_sub hl [1, 2, 0] rfl) hw3
  exact hK0 _ _ ls hG hS hl hf
set_option maxRecDepth 100000 in
set_option maxHeartbeats 4000000 in
theorem c_X9_clear (l : Launch) (D : va_G) (aC : Nat → ClassId) (zs : Nat × Nat) (A : Nat → Prop) (nl : zNL) (ad : Nat → Nat → Nat → Nat) (σ : zM)   (σ' : zM)  (hf : f_X9_clear σ = σ') : Met l yX9_clear (Cond.code yX9_clear cX9_clear 1 none :: wsL_law) ({ frames := 0, cells := 0, slots := 0, locals := 0 } : Room) (zP D aC zs zfX A nl ad σ [.ref (ad 9 0 0)]) (zQ none (fun t => zG D aC A nl ad σ' t t.heap ∧ True) A) 0 0 A := by
  refine Met.ofW (cc := cX9_clear) (maxL := 1) (ret := none) (by decide) rfl ?_
  intro p e s m args below meth c s₁ B hml hv
  obtain ⟨rfl, hG, hZ⟩ := hv
  have hx := B.exec
  have hb := B.bytes
  have hr := B.returns
  have hts : ∀ w ∈ wsL_law, w.before ([.ref (ad 9 0 0)] : List Value).toArray s = true := fun w h => (atoms_spec B.pre) w (List.mem_cons_of_mem _ h)
  have hown : s.vm.findClass RX9 = some m.cls := findClass_of_methodNamed B.named
  have hlocks := B.notSynchronized
  have S : zS p m c cX9_clear 1 s ([.ref (ad 9 0 0)] : List Value).toArray RX9 := ⟨hx, hb, hml, hown, hts⟩
  have hS : va_S A s.heap s.heap [] := va_S.rf
  have hl := lv_entry ([.ref (ad 9 0 0)]) (n := 1) (Nat.le_of_ble_eq_true rfl)
  rw [lg_entry_eq]
  generalize (lg_sl ([.ref (ad 9 0 0)]) ++ List.replicate (1 - (lg_sl ([.ref (ad 9 0 0)])).length) Slot.unset).toArray = ls at hl ⊢
  have hl : lv_has ls 1 [(0, .ref (ad 9 0 0))] := hl
  generalize hargs : ([.ref (ad 9 0 0)] : List Value).toArray = args at S hts ⊢
  clear hargs
  have hK0 : ∀ (H : Heap) (locs : List Loc) (ls : Array Slot), zG D aC A nl ad σ s H → va_S A s.heap H locs → lv_has ls 1 [(0, .ref (ad 9 0 0))] → f_X9_clear σ = σ' → zWk p l e ({ frames := 0, cells := 0, slots := 0, locals := 0 } : Room) s m args below meth c A none (fun t => zG D aC A nl ad σ' t t.heap ∧ True) H locs (F0 m 0 ls []) := by
    intro H locs ls hG hS hl hf
    unfold f_X9_clear at hf
    refine lv_aload_n hx hb dX9_clear_0 rfl (lv_at hl 0 rfl) ?_
    refine lv_iconst (v := 0) hx hb dX9_clear_1 (by decide) ?_
    refine z_putI (c0 := 9) (i0 := 0) (k0 := 1) (T := TX9) S hG hS tyX9 tyX9_ok nmX9 (hZ.2.1 (9, 0) (by decide)) rfl inlX9 (by decide) rfl rfl zw_62 (by decide +kernel) rfl dX9_clear_2 (fun H locs hG hS => ?_)
    obtain ⟨σ1, eσ1, hf⟩ := zlt_s hf
    rw [← eσ1] at hG
    have hq := hf
    subst hq
    exact z_vret S hG hS hlocks trivial hr dX9_clear_5
  exact hK0 _ _ ls hG hS hl hf
set_option maxRecDepth 100000 in
set_option maxHeartbeats 4000000 in
theorem c_X9_wordOf (l : Launch) (D : va_G) (aC : Nat → ClassId) (zs : Nat × Nat) (A : Nat → Prop) (nl : zNL) (ad : Nat → Nat → Nat → Nat) (σ : zM) (x1 : Int32) (r : Int64)  (hf : f_X9_wordOf σ x1 = some r) : Met l yX9_wordOf (Cond.code yX9_wordOf cX9_wordOf 6 (some .long) :: wsL_law) ({ frames := 1, cells := 0, slots := 0, locals := 22 } : Room) (zP D aC zs zfX A nl ad σ [.ref (ad 9 0 0), .int x1]) (zQ (some (.long r)) (fun t => zG D aC A nl ad σ t t.heap ∧ True) A) 0 0 A := by
  refine Met.ofW (cc := cX9_wordOf) (maxL := 6) (ret := (some .long)) (by decide) rfl ?_
  intro p e s m args below meth c s₁ B hml hv
  obtain ⟨rfl, hG, hZ⟩ := hv
  have hx := B.exec
  have hb := B.bytes
  have hr := B.returns
  have hts : ∀ w ∈ wsL_law, w.before ([.ref (ad 9 0 0), .int x1] : List Value).toArray s = true := fun w h => (atoms_spec B.pre) w (List.mem_cons_of_mem _ h)
  have hown : s.vm.findClass RX9 = some m.cls := findClass_of_methodNamed B.named
  have hlocks := B.notSynchronized
  have S : zS p m c cX9_wordOf 6 s ([.ref (ad 9 0 0), .int x1] : List Value).toArray RX9 := ⟨hx, hb, hml, hown, hts⟩
  have hS : va_S A s.heap s.heap [] := va_S.rf
  have hl := lv_entry ([.ref (ad 9 0 0), .int x1]) (n := 6) (Nat.le_of_ble_eq_true rfl)
  rw [lg_entry_eq]
  generalize (lg_sl ([.ref (ad 9 0 0), .int x1]) ++ List.replicate (6 - (lg_sl ([.ref (ad 9 0 0), .int x1])).length) Slot.unset).toArray = ls at hl ⊢
  have hl : lv_has ls 6 [(0, .ref (ad 9 0 0)), (1, .int x1)] := hl
  generalize hargs : ([.ref (ad 9 0 0), .int x1] : List Value).toArray = args at S hts ⊢
  clear hargs
  have hK0 : ∀ (H : Heap) (locs : List Loc) (ls : Array Slot), zG D aC A nl ad σ s H → va_S A s.heap H locs → lv_has ls 6 [(0, .ref (ad 9 0 0)), (1, .int x1)] → f_X9_wordOf σ x1 = some r → zWk p l e ({ frames := 1, cells := 0, slots := 0, locals := 22 } : Room) s m args below meth c A (some (.long r)) (fun t => zG D aC A nl ad σ t t.heap ∧ True) H locs (F0 m 0 ls []) := by
    intro H locs ls hG hS hl hf
    unfold f_X9_wordOf at hf
    refine lv_iload_n hx hb dX9_wordOf_0 rfl (lv_at hl 1 rfl) ?_
    refine lv_iconst (v := 1) hx hb dX9_wordOf_1 (by decide) ?_
    refine lv_icmp_lt (tgt := 11) hx hb dX9_wordOf_2 (by decide) (fun c1 => ?_) (fun c1 => ?_)
    · have hf := zif_p c1 hf
      refine lv_lconst (v := 0) hx hb dX9_wordOf_11 (by decide) ?_
      have hq := (Option.some.inj hf)
      subst hq
      exact z_lret S hG hS hlocks trivial hr dX9_wordOf_12
    · have hf := zif_n c1 hf
      refine lv_iload_n hx hb dX9_wordOf_5 rfl (lv_at hl 1 rfl) ?_
      refine lv_bipush (v := 8) hx hb dX9_wordOf_6 (by decide) ?_
      refine lv_icmp_le (tgt := 13) hx hb dX9_wordOf_8 (by decide) (fun c2 => ?_) (fun c2 => ?_)
      · have hf := zif_p c2 hf
        refine lv_lconst (v := 0) hx hb dX9_wordOf_13 (by decide) ?_
        refine lv_lstore_n (lv' := [(2, .long 0), (0, .ref (ad 9 0 0)), (1, .int x1)]) hx hb dX9_wordOf_14 rfl hl (by decide) rfl (fun ls hl => ?_)
        refine lv_iconst (v := 0) hx hb dX9_wordOf_15 (by decide) ?_
        refine lv_istore (lv' := [(4, .int 0), (2, .long 0), (0, .ref (ad 9 0 0)), (1, .int x1)]) hx hb dX9_wordOf_16 hl (by decide) rfl (fun ls hl => ?_)
        obtain ⟨t18, hw18, hfo18⟩ := zbi hf
        have KL18 : ∀ (n : Nat) (y2l18 : Int64) (y4l18 : Int32) (H : Heap) (locs : List Loc) (ls : Array Slot), zG D aC A nl ad σ s H → va_S A s.heap H locs → lv_has ls 6 [(0, .ref (ad 9 0 0)), (1, .int x1), (2, .long y2l18), (4, .int y4l18)] → zwh (fun (q : (Int64 × Int32)) => f_X9_wordOf_L18 σ x1 q.1 q.2) n (y2l18, y4l18) = some t18 → zWk p l e ({ frames := 1, cells := 0, slots := 0, locals := 22 } : Room) s m args below meth c A (some (.long r)) (fun t => zG D aC A nl ad σ t t.heap ∧ True) H locs (F0 m 18 ls []) := by
          intro n
          induction n with
          | zero =>
            intro y2l18 y4l18 H locs ls hG hS hl hw
            exact (zwh_0 hw).elim
          | succ n ih18 =>
            intro y2l18 y4l18 H locs ls hG hS hl hw
            obtain ⟨rr18, hf, hk18⟩ := zwh_u hw
            have hf : f_X9_wordOf_L18 σ x1 y2l18 y4l18 = some rr18 := hf
            unfold f_X9_wordOf_L18 at hf
            refine lv_iload hx hb dX9_wordOf_18 (lv_at hl 3 rfl) ?_
            refine lv_iload_n hx hb dX9_wordOf_20 rfl (lv_at hl 1 rfl) ?_
            refine lv_icmp_ge (tgt := 55) hx hb dX9_wordOf_21 (by decide) (fun c9 => ?_) (fun c9 => ?_)
            · have hf := zif_p c9 hf
              cases hf
              have hk18 : ((.inr y2l18) : (Unit ⊕ Int64)) = t18 := hk18
              have hf := hfo18
              rw [← hk18] at hf
              have hf : (some y2l18) = some r := hf
              refine lv_lload_n hx hb dX9_wordOf_55 rfl (lv_at hl 2 rfl) ?_
              have hq := (Option.some.inj hf)
              subst hq
              exact z_lret S hG hS hlocks trivial hr dX9_wordOf_56
            · have hf := zif_n c9 hf
              refine lv_aload_n hx hb dX9_wordOf_24 rfl (lv_at hl 0 rfl) ?_
              refine lv_iload hx hb dX9_wordOf_25 (lv_at hl 3 rfl) ?_
              obtain ⟨r10, er10, hf⟩ := zbi hf
              refine z_callV (n := 1) (rest := []) (st1 := [.int r10]) (c0 := 9) (i0 := 0) (hZ.2.1 (9, 0) (by decide)) (by rfl) S hG hS hZ (fun _ _ h => h) (c_X9_at l D aC zs A nl ad σ y4l18 r10 er10) zw_1134 zw_327 zw_328 zw_15 zw_329 (by decide +kernel) ⟨rfl, rfl⟩ ⟨(Nat.le_of_ble_eq_true rfl), (Nat.le_of_ble_eq_true rfl)⟩ hl.1 rfl (by rfl) (by rfl) (Nat.le_of_ble_eq_true rfl) dX9_wordOf_27 ⟨Nat.zero_le _, Nat.zero_le _⟩ (fun H locs hz11 hG hS => ?_)
              refine lv_istore (lv' := [(5, .int r10), (0, .ref (ad 9 0 0)), (1, .int x1), (2, .long y2l18), (4, .int y4l18)]) hx hb dX9_wordOf_30 hl (by decide) rfl (fun ls hl => ?_)
              refine lv_iload hx hb dX9_wordOf_32 (lv_at hl 0 rfl) ?_
              refine z_callS (n := 1) (rest := []) (st1 := [.int (f_X10_isLetter r10)]) S hG hS hZ (fun _ _ h => h) (c_X10_isLetter l D aC zs A nl ad σ r10 (f_X10_isLetter r10) rfl) zw_1135 zw_340 zw_109 zw_341 (by decide +kernel) ⟨rfl, rfl⟩ ⟨(Nat.le_of_ble_eq_true rfl), (Nat.le_of_ble_eq_true rfl)⟩ hl.1 rfl (by rfl) (by rfl) (Nat.le_of_ble_eq_true rfl) dX9_wordOf_34 ⟨Nat.zero_le _, Nat.zero_le _⟩ (fun H locs hz12 hG hS => ?_)
              refine lv_if_ne (tgt := 42) hx hb dX9_wordOf_37 (by decide) (fun c13 => ?_) (fun c13 => ?_)
              · have hf := zif_n c13 hf
                refine lv_lload_n hx hb dX9_wordOf_42 rfl (lv_at hl 3 rfl) ?_
                refine lv_iload hx hb dX9_wordOf_43 (lv_at hl 0 rfl) ?_
                refine z_callS (n := 2) (rest := []) (st1 := [.long (f_X10_join y2l18 r10)]) S hG hS hZ (fun _ _ h => h) (c_X10_join l D aC zs zfX A nl ad σ y2l18 r10 (f_X10_join y2l18 r10) rfl) zw_1136 zw_181 zw_109 zw_182 (by decide +kernel) ⟨rfl, rfl⟩ ⟨(Nat.le_of_ble_eq_true rfl), (Nat.le_of_ble_eq_true rfl)⟩ hl.1 rfl (by rfl) (by rfl) (Nat.le_of_ble_eq_true rfl) dX9_wordOf_45 ⟨Nat.zero_le _, Nat.zero_le _⟩ (fun H locs hz14 hG hS => ?_)
                refine lv_lstore_n (lv' := [(2, .long (f_X10_join y2l18 r10)), (5, .int r10), (0, .ref (ad 9 0 0)), (1, .int x1), (4, .int y4l18)]) hx hb dX9_wordOf_48 rfl hl (by decide) rfl (fun ls hl => ?_)
                refine lv_iinc (v := (y4l18 + 1)) (lv' := [(4, .int (y4l18 + 1)), (2, .long (f_X10_join y2l18 r10)), (5, .int r10), (0, .ref (ad 9 0 0)), (1, .int x1)]) hx hb dX9_wordOf_49 hl (k := 4) rfl rfl (by decide) rfl (fun ls hl => ?_)
                refine lv_goto (tgt := 18) hx hb dX9_wordOf_52 (by decide) ?_
                cases hf
                exact ih18 (f_X10_join y2l18 r10) (y4l18 + 1) H locs ls hG hS (lv_sub hl [3, 4, 1, 0] rfl) hk18
              · have hf := zif_p c13 hf
                cases hf
                have hk18 : ((.inl ()) : (Unit ⊕ Int64)) = t18 := hk18
                have hf := hfo18
                rw [← hk18] at hf
                have hf : (some 0) = some r := hf
                refine lv_lconst (v := 0) hx hb dX9_wordOf_40 (by decide) ?_
                have hq := (Option.some.inj hf)
                subst hq
                exact z_lret S hG hS hlocks trivial hr dX9_wordOf_41
        exact KL18 zFu 0 0 H locs ls hG hS (lv_sub hl [2, 3, 1, 0] rfl) hw18
      · have hf := zif_n c2 hf
        refine lv_lconst (v := 0) hx hb dX9_wordOf_11 (by decide) ?_
        have hq := (Option.some.inj hf)
        subst hq
        exact z_lret S hG hS hlocks trivial hr dX9_wordOf_12
  exact hK0 _ _ ls hG hS hl hf
set_option maxRecDepth 100000 in
set_option maxHeartbeats 4000000 in
theorem c_X10_lengthOf (l : Launch) (D : va_G) (aC : Nat → ClassId) (zs : Nat × Nat) (A : Nat → Prop) (nl : zNL) (ad : Nat → Nat → Nat → Nat) (σ : zM) (x0 : Int64) (r : Int32)  (hf : f_X10_lengthOf x0 = some r) : Met l yX10_lengthOf (Cond.code yX10_lengthOf cX10_lengthOf 4 (some .int) :: wsL_law) ({ frames := 0, cells := 0, slots := 0, locals := 0 } : Room) (zP D aC zs zfX A nl ad σ [.long x0]) (zQ (some (.int r)) (fun t => zG D aC A nl ad σ t t.heap ∧ True) A) 0 0 A := by
  refine Met.ofW (cc := cX10_lengthOf) (maxL := 4) (ret := (some .int)) (by decide) rfl ?_
  intro p e s m args below meth c s₁ B hml hv
  obtain ⟨rfl, hG, hZ⟩ := hv
  have hx := B.exec
  have hb := B.bytes
  have hr := B.returns
  have hts : ∀ w ∈ wsL_law, w.before ([.long x0] : List Value).toArray s = true := fun w h => (atoms_spec B.pre) w (List.mem_cons_of_mem _ h)
  have hown : s.vm.findClass RX10 = some m.cls := findClass_of_methodNamed B.named
  have hlocks := B.notSynchronized
  have S : zS p m c cX10_lengthOf 4 s ([.long x0] : List Value).toArray RX10 := ⟨hx, hb, hml, hown, hts⟩
  have hS : va_S A s.heap s.heap [] := va_S.rf
  have hl := lv_entry ([.long x0]) (n := 4) (Nat.le_of_ble_eq_true rfl)
  rw [lg_entry_eq]
  generalize (lg_sl ([.long x0]) ++ List.replicate (4 - (lg_sl ([.long x0])).length) Slot.unset).toArray = ls at hl ⊢
  have hl : lv_has ls 4 [(0, .long x0)] := hl
  generalize hargs : ([.long x0] : List Value).toArray = args at S hts ⊢
  clear hargs
  have hK0 : ∀ (H : Heap) (locs : List Loc) (ls : Array Slot), zG D aC A nl ad σ s H → va_S A s.heap H locs → lv_has ls 4 [(0, .long x0)] → f_X10_lengthOf x0 = some r → zWk p l e ({ frames := 0, cells := 0, slots := 0, locals := 0 } : Room) s m args below meth c A (some (.int r)) (fun t => zG D aC A nl ad σ t t.heap ∧ True) H locs (F0 m 0 ls []) := by
    intro H locs ls hG hS hl hf
    unfold f_X10_lengthOf at hf
    refine lv_iconst (v := 0) hx hb dX10_lengthOf_0 (by decide) ?_
    refine lv_istore_n (lv' := [(2, .int 0), (0, .long x0)]) hx hb dX10_lengthOf_1 rfl hl (by decide) rfl (fun ls hl => ?_)
    refine lv_iconst (v := 0) hx hb dX10_lengthOf_2 (by decide) ?_
    refine lv_istore_n (lv' := [(3, .int 0), (2, .int 0), (0, .long x0)]) hx hb dX10_lengthOf_3 rfl hl (by decide) rfl (fun ls hl => ?_)
    obtain ⟨t4, hw4, hfo4⟩ := zbi hf
    have KL4 : ∀ (n : Nat) (y2l4 : Int32) (y3l4 : Int32) (H : Heap) (locs : List Loc) (ls : Array Slot), zG D aC A nl ad σ s H → va_S A s.heap H locs → lv_has ls 4 [(0, .long x0), (2, .int y2l4), (3, .int y3l4)] → zwh (fun (q : (Int32 × Int32)) => f_X10_lengthOf_L4 x0 q.1 q.2) n (y2l4, y3l4) = some t4 → zWk p l e ({ frames := 0, cells := 0, slots := 0, locals := 0 } : Room) s m args below meth c A (some (.int r)) (fun t => zG D aC A nl ad σ t t.heap ∧ True) H locs (F0 m 4 ls []) := by
      intro n
      induction n with
      | zero =>
        intro y2l4 y3l4 H locs ls hG hS hl hw
        exact (zwh_0 hw).elim
      | succ n ih4 =>
        intro y2l4 y3l4 H locs ls hG hS hl hw
        obtain ⟨rr4, hf, hk4⟩ := zwh_u hw
        have hf : f_X10_lengthOf_L4 x0 y2l4 y3l4 = some rr4 := hf
        unfold f_X10_lengthOf_L4 at hf
        have KJ23_4 : ∀ (y2b23 : Int32) (y3b23 : Int32)   (H : Heap) (locs : List Loc) (ls : Array Slot), zG D aC A nl ad σ s H → va_S A s.heap H locs → lv_has ls 4 [(0, .long x0), (2, .int y2b23), (3, .int y3b23)] → (f_X10_lengthOf_B23_4 x0 y2b23 y3b23) = some rr4 → zWk p l e ({ frames := 0, cells := 0, slots := 0, locals := 0 } : Room) s m args below meth c A (some (.int r)) (fun t => zG D aC A nl ad σ t t.heap ∧ True) H locs (F0 m 23 ls []) := by
          intro y2b23 y3b23   H locs ls hG hS hl hf
          unfold f_X10_lengthOf_B23_4 at hf
          refine lv_iinc (v := (y3b23 + 1)) (lv' := [(3, .int (y3b23 + 1)), (0, .long x0), (2, .int y2b23)]) hx hb dX10_lengthOf_23 hl (k := 2) rfl rfl (by decide) rfl (fun ls hl => ?_)
          refine lv_goto (tgt := 4) hx hb dX10_lengthOf_26 (by decide) ?_
          cases hf
          exact ih4 y2b23 (y3b23 + 1) H locs ls hG hS (lv_sub hl [1, 2, 0] rfl) hk4
        refine lv_iload_n hx hb dX10_lengthOf_4 rfl (lv_at hl 2 rfl) ?_
        refine lv_bipush (v := 8) hx hb dX10_lengthOf_5 (by decide) ?_
        refine lv_icmp_ge (tgt := 29) hx hb dX10_lengthOf_7 (by decide) (fun c3 => ?_) (fun c3 => ?_)
        · have hf := zif_p c3 hf
          cases hf
          have hk4 : (y2l4 : Int32) = t4 := hk4
          have hf := hfo4
          rw [← hk4] at hf
          have hf : (some y2l4) = some r := hf
          refine lv_iload_n hx hb dX10_lengthOf_29 rfl (lv_at hl 1 rfl) ?_
          have hq := (Option.some.inj hf)
          subst hq
          exact z_iret S hG hS hlocks trivial hr dX10_lengthOf_30
        · have hf := zif_n c3 hf
          refine lv_lload_n hx hb dX10_lengthOf_10 rfl (lv_at hl 0 rfl) ?_
          refine lv_iconst (v := 5) hx hb dX10_lengthOf_11 (by decide) ?_
          refine lv_iload_n hx hb dX10_lengthOf_12 rfl (lv_at hl 2 rfl) ?_
          refine lv_imul hx hb dX10_lengthOf_13 ?_
          refine lv_lushr (v := (zlushr x0 (5 * y3l4))) hx hb dX10_lengthOf_14 rfl ?_
          refine lv_lconst (v := 0) hx hb dX10_lengthOf_15 (by decide) ?_
          refine W.lcmp hx hb dX10_lengthOf_16 ?_
          refine lv_if_eq (tgt := 23) hx hb dX10_lengthOf_17 (by decide) (fun c4 => ?_) (fun c4 => ?_)
          · have hf := zif_p ((lg_cmp_eq (zlushr x0 (5 * y3l4)) 0).mp c4) hf
            exact KJ23_4 y2l4 y3l4 H locs ls hG hS (lv_sub hl [0, 1, 2] rfl) hf
          · have hf := zif_n (fun h => c4 ((lg_cmp_eq (zlushr x0 (5 * y3l4)) 0).mpr h)) hf
            refine lv_iinc (v := (y2l4 + 1)) (lv' := [(2, .int (y2l4 + 1)), (0, .long x0), (3, .int y3l4)]) hx hb dX10_lengthOf_20 hl (k := 1) rfl rfl (by decide) rfl (fun ls hl => ?_)
            exact KJ23_4 (y2l4 + 1) y3l4 H locs ls hG hS (lv_sub hl [1, 0, 2] rfl) hf
    exact KL4 zFu 0 0 H locs ls hG hS (lv_sub hl [2, 1, 0] rfl) hw4
  exact hK0 _ _ ls hG hS hl hf
set_option maxRecDepth 100000 in
set_option maxHeartbeats 4000000 in
theorem c_X10_letterOf (l : Launch) (D : va_G) (aC : Nat → ClassId) (zs : Nat × Nat) (A : Nat → Prop) (nl : zNL) (ad : Nat → Nat → Nat → Nat) (σ : zM) (x0 : Int64) (x2 : Int32) (r : Int32)  (hf : f_X10_letterOf x0 x2 = some r) : Met l yX10_letterOf (Cond.code yX10_letterOf cX10_letterOf 4 (some .int) :: wsL_law) ({ frames := 1, cells := 0, slots := 0, locals := 23 } : Room) (zP D aC zs zfX A nl ad σ [.long x0, .int x2]) (zQ (some (.int r)) (fun t => zG D aC A nl ad σ t t.heap ∧ True) A) 0 0 A := by
  refine Met.ofW (cc := cX10_letterOf) (maxL := 4) (ret := (some .int)) (by decide) rfl ?_
  intro p e s m args below meth c s₁ B hml hv
  obtain ⟨rfl, hG, hZ⟩ := hv
  have hx := B.exec
  have hb := B.bytes
  have hr := B.returns
  have hts : ∀ w ∈ wsL_law, w.before ([.long x0, .int x2] : List Value).toArray s = true := fun w h => (atoms_spec B.pre) w (List.mem_cons_of_mem _ h)
  have hown : s.vm.findClass RX10 = some m.cls := findClass_of_methodNamed B.named
  have hlocks := B.notSynchronized
  have S : zS p m c cX10_letterOf 4 s ([.long x0, .int x2] : List Value).toArray RX10 := ⟨hx, hb, hml, hown, hts⟩
  have hS : va_S A s.heap s.heap [] := va_S.rf
  have hl := lv_entry ([.long x0, .int x2]) (n := 4) (Nat.le_of_ble_eq_true rfl)
  rw [lg_entry_eq]
  generalize (lg_sl ([.long x0, .int x2]) ++ List.replicate (4 - (lg_sl ([.long x0, .int x2])).length) Slot.unset).toArray = ls at hl ⊢
  have hl : lv_has ls 4 [(0, .long x0), (2, .int x2)] := hl
  generalize hargs : ([.long x0, .int x2] : List Value).toArray = args at S hts ⊢
  clear hargs
  have hK0 : ∀ (H : Heap) (locs : List Loc) (ls : Array Slot), zG D aC A nl ad σ s H → va_S A s.heap H locs → lv_has ls 4 [(0, .long x0), (2, .int x2)] → f_X10_letterOf x0 x2 = some r → zWk p l e ({ frames := 1, cells := 0, slots := 0, locals := 23 } : Room) s m args below meth c A (some (.int r)) (fun t => zG D aC A nl ad σ t t.heap ∧ True) H locs (F0 m 0 ls []) := by
    intro H locs ls hG hS hl hf
    unfold f_X10_letterOf at hf
    refine lv_lload_n hx hb dX10_letterOf_0 rfl (lv_at hl 0 rfl) ?_
    obtain ⟨r1, er1, hf⟩ := zbi hf
    refine z_callS (n := 1) (rest := []) (st1 := [.int r1]) S hG hS hZ (fun _ _ h => h) (c_X10_lengthOf l D aC zs A nl ad σ x0 r1 er1) zw_757 zw_751 zw_109 zw_752 (by decide +kernel) ⟨rfl, rfl⟩ ⟨(Nat.le_of_ble_eq_true rfl), (Nat.le_of_ble_eq_true rfl)⟩ hl.1 rfl (by rfl) (by rfl) (Nat.le_of_ble_eq_true rfl) dX10_letterOf_1 ⟨Nat.zero_le _, Nat.zero_le _⟩ (fun H locs hz2 hG hS => ?_)
    refine lv_istore_n (lv' := [(3, .int r1), (0, .long x0), (2, .int x2)]) hx hb dX10_letterOf_4 rfl hl (by decide) rfl (fun ls hl => ?_)
    refine lv_iload_n hx hb dX10_letterOf_5 rfl (lv_at hl 2 rfl) ?_
    refine lv_if_lt (tgt := 14) hx hb dX10_letterOf_6 (by decide) (fun c3 => ?_) (fun c3 => ?_)
    · have hf := zif_p c3 hf
      refine lv_iconst (v := (-1)) hx hb dX10_letterOf_14 (by decide) ?_
      have hq := (Option.some.inj hf)
      subst hq
      exact z_iret S hG hS hlocks trivial hr dX10_letterOf_15
    · have hf := zif_n c3 hf
      refine lv_iload_n hx hb dX10_letterOf_9 rfl (lv_at hl 2 rfl) ?_
      refine lv_iload_n hx hb dX10_letterOf_10 rfl (lv_at hl 0 rfl) ?_
      refine lv_icmp_lt (tgt := 16) hx hb dX10_letterOf_11 (by decide) (fun c4 => ?_) (fun c4 => ?_)
      · have hf := zif_p c4 hf
        refine lv_lload_n hx hb dX10_letterOf_16 rfl (lv_at hl 1 rfl) ?_
        refine lv_iconst (v := 5) hx hb dX10_letterOf_17 (by decide) ?_
        refine lv_iload_n hx hb dX10_letterOf_18 rfl (lv_at hl 0 rfl) ?_
        refine lv_iconst (v := 1) hx hb dX10_letterOf_19 (by decide) ?_
        refine lv_isub hx hb dX10_letterOf_20 ?_
        refine lv_iload_n hx hb dX10_letterOf_21 rfl (lv_at hl 2 rfl) ?_
        refine lv_isub hx hb dX10_letterOf_22 ?_
        refine lv_imul hx hb dX10_letterOf_23 ?_
        refine lv_lushr (v := (zlushr x0 (5 * ((r1 - 1) - x2)))) hx hb dX10_letterOf_24 rfl ?_
        refine lv_ldc2 (v := 31) hx hb hown (hts _ zw_756) dX10_letterOf_25 ?_
        refine lv_land hx hb dX10_letterOf_28 ?_
        refine lv_l2i (v := ((zlushr x0 (5 * ((r1 - 1) - x2))) &&& 31).toInt32) hx hb dX10_letterOf_29 rfl ?_
        refine lv_bipush (v := 97) hx hb dX10_letterOf_30 (by decide) ?_
        refine lv_iadd hx hb dX10_letterOf_32 ?_
        refine lv_iconst (v := 1) hx hb dX10_letterOf_33 (by decide) ?_
        refine lv_isub hx hb dX10_letterOf_34 ?_
        have hq := (Option.some.inj hf)
        subst hq
        exact z_iret S hG hS hlocks trivial hr dX10_letterOf_35
      · have hf := zif_n c4 hf
        refine lv_iconst (v := (-1)) hx hb dX10_letterOf_14 (by decide) ?_
        have hq := (Option.some.inj hf)
        subst hq
        exact z_iret S hG hS hlocks trivial hr dX10_letterOf_15
  exact hK0 _ _ ls hG hS hl hf
