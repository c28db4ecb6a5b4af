set_option maxRecDepth 100000 in
set_option maxHeartbeats 4000000 in
theorem c_J13_bitCount_95d88 (l : Launch) (D : va_G) (aC : Nat → ClassId) (zs : Nat × Nat) (fx : List (Nat × Nat)) (A : Nat → Prop) (nl : zNL) (ad : Nat → Nat → Nat → Nat) (σ : zM) (x0 : Int64) (r : Int32)  (hf : f_J13_bitCount_95d88 x0 = r) : Met l yJ13_bitCount_95d88 (Cond.code yJ13_bitCount_95d88 cJ13_bitCount_95d88 2 (some .int) :: wsL_law) ({ frames := 0, cells := 0, slots := 0, locals := 0 } : Room) (zP D aC zs fx A nl ad σ [.long x0]) (zQ (some (.int r)) (fun t => zG D aC A nl ad σ t t.heap ∧ True) A) 0 0 A := by
  refine Met.ofW (cc := cJ13_bitCount_95d88) (maxL := 2) (ret := (some .int)) (by decide) rfl ?_
  intro p e s m args below meth c s₁ B hml hv
  obtain ⟨rfl, hG, hZ⟩ := hv
  have hx := B.exec
  have hb := B.bytes
  have hr := B.returns
  have hts : ∀ w ∈ wsL_law, w.before ([.long x0] : List Value).toArray s = true := fun w h => (atoms_spec B.pre) w (List.mem_cons_of_mem _ h)
  have hown : s.vm.findClass RJ13 = some m.cls := findClass_of_methodNamed B.named
  have hlocks := B.notSynchronized
  have S : zS p m c cJ13_bitCount_95d88 2 s ([.long x0] : List Value).toArray RJ13 := ⟨hx, hb, hml, hown, hts⟩
  have hS : va_S A s.heap s.heap [] := va_S.rf
  have hl := lv_entry ([.long x0]) (n := 2) (Nat.le_of_ble_eq_true rfl)
  rw [lg_entry_eq]
  generalize (lg_sl ([.long x0]) ++ List.replicate (2 - (lg_sl ([.long x0])).length) Slot.unset).toArray = ls at hl ⊢
  have hl : lv_has ls 2 [(0, .long x0)] := hl
  generalize hargs : ([.long x0] : List Value).toArray = args at S hts ⊢
  clear hargs
  have hK0 : ∀ (H : Heap) (locs : List Loc) (ls : Array Slot), zG D aC A nl ad σ s H → va_S A s.heap H locs → lv_has ls 2 [(0, .long x0)] → f_J13_bitCount_95d88 x0 = r → zWk p l e ({ frames := 0, cells := 0, slots := 0, locals := 0 } : Room) s m args below meth c A (some (.int r)) (fun t => zG D aC A nl ad σ t t.heap ∧ True) H locs (F0 m 0 ls []) := by
    intro H locs ls hG hS hl hf
    unfold f_J13_bitCount_95d88 at hf
    refine lv_lload_n hx hb dJ13_bitCount_95d88_0 rfl (lv_at hl 0 rfl) ?_
    refine lv_lload_n hx hb dJ13_bitCount_95d88_1 rfl (lv_at hl 0 rfl) ?_
    refine lv_iconst (v := 1) hx hb dJ13_bitCount_95d88_2 (by decide) ?_
    refine lv_lushr (v := (zlushr x0 1)) hx hb dJ13_bitCount_95d88_3 rfl ?_
    refine lv_ldc2 (v := 6148914691236517205) hx hb hown (hts _ zw_1479) dJ13_bitCount_95d88_4 ?_
    refine lv_land hx hb dJ13_bitCount_95d88_7 ?_
    refine lv_lsub hx hb dJ13_bitCount_95d88_8 ?_
    refine lv_lstore_n (lv' := [(0, .long (x0 - ((zlushr x0 1) &&& 6148914691236517205)))]) hx hb dJ13_bitCount_95d88_9 rfl hl (by decide) rfl (fun ls hl => ?_)
    refine lv_lload_n hx hb dJ13_bitCount_95d88_10 rfl (lv_at hl 0 rfl) ?_
    refine lv_ldc2 (v := 3689348814741910323) hx hb hown (hts _ zw_1480) dJ13_bitCount_95d88_11 ?_
    refine lv_land hx hb dJ13_bitCount_95d88_14 ?_
    refine lv_lload_n hx hb dJ13_bitCount_95d88_15 rfl (lv_at hl 0 rfl) ?_
    refine lv_iconst (v := 2) hx hb dJ13_bitCount_95d88_16 (by decide) ?_
    refine lv_lushr (v := (zlushr (x0 - ((zlushr x0 1) &&& 6148914691236517205)) 2)) hx hb dJ13_bitCount_95d88_17 rfl ?_
    refine lv_ldc2 (v := 3689348814741910323) hx hb hown (hts _ zw_1480) dJ13_bitCount_95d88_18 ?_
    refine lv_land hx hb dJ13_bitCount_95d88_21 ?_
    refine lv_ladd hx hb dJ13_bitCount_95d88_22 ?_
    refine lv_lstore_n (lv' := [(0, .long (((x0 - ((zlushr x0 1) &&& 6148914691236517205)) &&& 3689348814741910323) + ((zlushr (x0 - ((zlushr x0 1) &&& 6148914691236517205)) 2) &&& 3689348814741910323)))]) hx hb dJ13_bitCount_95d88_23 rfl hl (by decide) rfl (fun ls hl => ?_)
    refine lv_lload_n hx hb dJ13_bitCount_95d88_24 rfl (lv_at hl 0 rfl) ?_
    refine lv_lload_n hx hb dJ13_bitCount_95d88_25 rfl (lv_at hl 0 rfl) ?_
    refine lv_iconst (v := 4) hx hb dJ13_bitCount_95d88_26 (by decide) ?_
    refine lv_lushr (v := (zlushr (((x0 - ((zlushr x0 1) &&& 6148914691236517205)) &&& 3689348814741910323) + ((zlushr (x0 - ((zlushr x0 1) &&& 6148914691236517205)) 2) &&& 3689348814741910323)) 4)) hx hb dJ13_bitCount_95d88_27 rfl ?_
    refine lv_ladd hx hb dJ13_bitCount_95d88_28 ?_
    refine lv_ldc2 (v := 1085102592571150095) hx hb hown (hts _ zw_1481) dJ13_bitCount_95d88_29 ?_
    refine lv_land hx hb dJ13_bitCount_95d88_32 ?_
    refine lv_lstore_n (lv' := [(0, .long (((((x0 - ((zlushr x0 1) &&& 6148914691236517205)) &&& 3689348814741910323) + ((zlushr (x0 - ((zlushr x0 1) &&& 6148914691236517205)) 2) &&& 3689348814741910323)) + (zlushr (((x0 - ((zlushr x0 1) &&& 6148914691236517205)) &&& 3689348814741910323) + ((zlushr (x0 - ((zlushr x0 1) &&& 6148914691236517205)) 2) &&& 3689348814741910323)) 4)) &&& 1085102592571150095))]) hx hb dJ13_bitCount_95d88_33 rfl hl (by decide) rfl (fun ls hl => ?_)
    refine lv_lload_n hx hb dJ13_bitCount_95d88_34 rfl (lv_at hl 0 rfl) ?_
    refine lv_lload_n hx hb dJ13_bitCount_95d88_35 rfl (lv_at hl 0 rfl) ?_
    refine lv_bipush (v := 8) hx hb dJ13_bitCount_95d88_36 (by decide) ?_
    refine lv_lushr (v := (zlushr (((((x0 - ((zlushr x0 1) &&& 6148914691236517205)) &&& 3689348814741910323) + ((zlushr (x0 - ((zlushr x0 1) &&& 6148914691236517205)) 2) &&& 3689348814741910323)) + (zlushr (((x0 - ((zlushr x0 1) &&& 6148914691236517205)) &&& 3689348814741910323) + ((zlushr (x0 - ((zlushr x0 1) &&& 6148914691236517205)) 2) &&& 3689348814741910323)) 4)) &&& 1085102592571150095) 8)) hx hb dJ13_bitCount_95d88_38 rfl ?_
    refine lv_ladd hx hb dJ13_bitCount_95d88_39 ?_
    refine lv_lstore_n (lv' := [(0, .long ((((((x0 - ((zlushr x0 1) &&& 6148914691236517205)) &&& 3689348814741910323) + ((zlushr (x0 - ((zlushr x0 1) &&& 6148914691236517205)) 2) &&& 3689348814741910323)) + (zlushr (((x0 - ((zlushr x0 1) &&& 6148914691236517205)) &&& 3689348814741910323) + ((zlushr (x0 - ((zlushr x0 1) &&& 6148914691236517205)) 2) &&& 3689348814741910323)) 4)) &&& 1085102592571150095) + (zlushr (((((x0 - ((zlushr x0 1) &&& 6148914691236517205)) &&& 3689348814741910323) + ((zlushr (x0 - ((zlushr x0 1) &&& 6148914691236517205)) 2) &&& 3689348814741910323)) + (zlushr (((x0 - ((zlushr x0 1) &&& 6148914691236517205)) &&& 3689348814741910323) + ((zlushr (x0 - ((zlushr x0 1) &&& 6148914691236517205)) 2) &&& 3689348814741910323)) 4)) &&& 1085102592571150095) 8)))]) hx hb dJ13_bitCount_95d88_40 rfl hl (by decide) rfl (fun ls hl => ?_)
    refine lv_lload_n hx hb dJ13_bitCount_95d88_41 rfl (lv_at hl 0 rfl) ?_
    refine lv_lload_n hx hb dJ13_bitCount_95d88_42 rfl (lv_at hl 0 rfl) ?_
    refine lv_bipush (v := 16) hx hb dJ13_bitCount_95d88_43 (by decide) ?_
    refine lv_lushr (v := (zlushr ((((((x0 - ((zlushr x0 1) &&& 6148914691236517205)) &&& 3689348814741910323) + ((zlushr (x0 - ((zlushr x0 1) &&& 6148914691236517205)) 2) &&& 3689348814741910323)) + (zlushr (((x0 - ((zlushr x0 1) &&& 6148914691236517205)) &&& 3689348814741910323) + ((zlushr (x0 - ((zlushr x0 1) &&& 6148914691236517205)) 2) &&& 3689348814741910323)) 4)) &&& 1085102592571150095) + (zlushr (((((x0 - ((zlushr x0 1) &&& 6148914691236517205)) &&& 3689348814741910323) + ((zlushr (x0 - ((zlushr x0 1) &&& 6148914691236517205)) 2) &&& 3689348814741910323)) + (zlushr (((x0 - ((zlushr x0 1) &&& 6148914691236517205)) &&& 3689348814741910323) + ((zlushr (x0 - ((zlushr x0 1) &&& 6148914691236517205)) 2) &&& 3689348814741910323)) 4)) &&& 1085102592571150095) 8)) 16)) hx hb dJ13_bitCount_95d88_45 rfl ?_
    refine lv_ladd hx hb dJ13_bitCount_95d88_46 ?_
    refine lv_lstore_n (lv' := [(0, .long (((((((x0 - ((zlushr x0 1) &&& 6148914691236517205)) &&& 3689348814741910323) + ((zlushr (x0 - ((zlushr x0 1) &&& 6148914691236517205)) 2) &&& 3689348814741910323)) + (zlushr (((x0 - ((zlushr x0 1) &&& 6148914691236517205)) &&& 3689348814741910323) + ((zlushr (x0 - ((zlushr x0 1) &&& 6148914691236517205)) 2) &&& 3689348814741910323)) 4)) &&& 1085102592571150095) + (zlushr (((((x0 - ((zlushr x0 1) &&& 6148914691236517205)) &&& 3689348814741910323) + ((zlushr (x0 - ((zlushr x0 1) &&& 6148914691236517205)) 2) &&& 3689348814741910323)) + (zlushr (((x0 - ((zlushr x0 1) &&& 6148914691236517205)) &&& 3689348814741910323) + ((zlushr (x0 - ((zlushr x0 1) &&& 6148914691236517205)) 2) &&& 3689348814741910323)) 4)) &&& 1085102592571150095) 8)) + (zlushr ((((((x0 - ((zlushr x0 1) &&& 6148914691236517205)) &&& 3689348814741910323) + ((zlushr (x0 - ((zlushr x0 1) &&& 6148914691236517205)) 2) &&& 3689348814741910323)) + (zlushr (((x0 - ((zlushr x0 1) &&& 6148914691236517205)) &&& 3689348814741910323) + ((zlushr (x0 - ((zlushr x0 1) &&& 6148914691236517205)) 2) &&& 3689348814741910323)) 4)) &&& 1085102592571150095) + (zlushr (((((x0 - ((zlushr x0 1) &&& 6148914691236517205)) &&& 3689348814741910323) + ((zlushr (x0 - ((zlushr x0 1) &&& 6148914691236517205)) 2) &&& 3689348814741910323)) + (zlushr (((x0 - ((zlushr x0 1) &&& 6148914691236517205)) &&& 3689348814741910323) + ((zlushr (x0 - ((zlushr x0 1) &&& 6148914691236517205)) 2) &&& 3689348814741910323)) 4)) &&& 1085102592571150095) 8)) 16)))]) hx hb dJ13_bitCount_95d88_47 rfl hl (by decide) rfl (fun ls hl => ?_)
    refine lv_lload_n hx hb dJ13_bitCount_95d88_48 rfl (lv_at hl 0 rfl) ?_
    refine lv_lload_n hx hb dJ13_bitCount_95d88_49 rfl (lv_at hl 0 rfl) ?_
    refine lv_bipush (v := 32) hx hb dJ13_bitCount_95d88_50 (by decide) ?_
    refine lv_lushr (v := (zlushr (((((((x0 - ((zlushr x0 1) &&& 6148914691236517205)) &&& 3689348814741910323) + ((zlushr (x0 - ((zlushr x0 1) &&& 6148914691236517205)) 2) &&& 3689348814741910323)) + (zlushr (((x0 - ((zlushr x0 1) &&& 6148914691236517205)) &&& 3689348814741910323) + ((zlushr (x0 - ((zlushr x0 1) &&& 6148914691236517205)) 2) &&& 3689348814741910323)) 4)) &&& 1085102592571150095) + (zlushr (((((x0 - ((zlushr x0 1) &&& 6148914691236517205)) &&& 3689348814741910323) + ((zlushr (x0 - ((zlushr x0 1) &&& 6148914691236517205)) 2) &&& 3689348814741910323)) + (zlushr (((x0 - ((zlushr x0 1) &&& 6148914691236517205)) &&& 3689348814741910323) + ((zlushr (x0 - ((zlushr x0 1) &&& 6148914691236517205)) 2) &&& 3689348814741910323)) 4)) &&& 1085102592571150095) 8)) + (zlushr ((((((x0 - ((zlushr x0 1) &&& 6148914691236517205)) &&& 3689348814741910323) + ((zlushr (x0 - ((zlushr x0 1) &&& 6148914691236517205)) 2) &&& 3689348814741910323)) + (zlushr (((x0 - ((zlushr x0 1) &&& 6148914691236517205)) &&& 3689348814741910323) + ((zlushr (x0 - ((zlushr x0 1) &&& 6148914691236517205)) 2) &&& 3689348814741910323)) 4)) &&& 1085102592571150095) + (zlushr (((((x0 - ((zlushr x0 1) &&& 6148914691236517205)) &&& 3689348814741910323) + ((zlushr (x0 - ((zlushr x0 1) &&& 6148914691236517205)) 2) &&& 3689348814741910323)) + (zlushr (((x0 - ((zlushr x0 1) &&& 6148914691236517205)) &&& 3689348814741910323) + ((zlushr (x0 - ((zlushr x0 1) &&& 6148914691236517205)) 2) &&& 3689348814741910323)) 4)) &&& 1085102592571150095) 8)) 16)) 32)) hx hb dJ13_bitCount_95d88_52 rfl ?_
    refine lv_ladd hx hb dJ13_bitCount_95d88_53 ?_
    refine lv_lstore_n (lv' := [(0, .long ((((((((x0 - ((zlushr x0 1) &&& 6148914691236517205)) &&& 3689348814741910323) + ((zlushr (x0 - ((zlushr x0 1) &&& 6148914691236517205)) 2) &&& 3689348814741910323)) + (zlushr (((x0 - ((zlushr x0 1) &&& 6148914691236517205)) &&& 3689348814741910323) + ((zlushr (x0 - ((zlushr x0 1) &&& 6148914691236517205)) 2) &&& 3689348814741910323)) 4)) &&& 1085102592571150095) + (zlushr (((((x0 - ((zlushr x0 1) &&& 6148914691236517205)) &&& 3689348814741910323) + ((zlushr (x0 - ((zlushr x0 1) &&& 6148914691236517205)) 2) &&& 3689348814741910323)) + (zlushr (((x0 - ((zlushr x0 1) &&& 6148914691236517205)) &&& 3689348814741910323) + ((zlushr (x0 - ((zlushr x0 1) &&& 6148914691236517205)) 2) &&& 3689348814741910323)) 4)) &&& 1085102592571150095) 8)) + (zlushr ((((((x0 - ((zlushr x0 1) &&& 6148914691236517205)) &&& 3689348814741910323) + ((zlushr (x0 - ((zlushr x0 1) &&& 6148914691236517205)) 2) &&& 3689348814741910323)) + (zlushr (((x0 - ((zlushr x0 1) &&& 6148914691236517205)) &&& 3689348814741910323) + ((zlushr (x0 - ((zlushr x0 1) &&& 6148914691236517205)) 2) &&& 3689348814741910323)) 4)) &&& 1085102592571150095) + (zlushr (((((x0 - ((zlushr x0 1) &&& 6148914691236517205)) &&& 3689348814741910323) + ((zlushr (x0 - ((zlushr x0 1) &&& 6148914691236517205)) 2) &&& 3689348814741910323)) + (zlushr (((x0 - ((zlushr x0 1) &&& 6148914691236517205)) &&& 3689348814741910323) + ((zlushr (x0 - ((zlushr x0 1) &&& 6148914691236517205)) 2) &&& 3689348814741910323)) 4)) &&& 1085102592571150095) 8)) 16)) + (zlushr (((((((x0 - ((zlushr x0 1) &&& 6148914691236517205)) &&& 3689348814741910323) + ((zlushr (x0 - ((zlushr x0 1) &&& 6148914691236517205)) 2) &&& 3689348814741910323)) + (zlushr (((x0 - ((zlushr x0 1) &&& 6148914691236517205)) &&& 3689348814741910323) + ((zlushr (x0 - ((zlushr x0 1) &&& 6148914691236517205)) 2) &&& 3689348814741910323)) 4)) &&& 1085102592571150095) + (zlushr (((((x0 - ((zlushr x0 1) &&& 6148914691236517205)) &&& 3689348814741910323) + ((zlushr (x0 - ((zlushr x0 1) &&& 6148914691236517205)) 2) &&& 3689348814741910323)) + (zlushr (((x0 - ((zlushr x0 1) &&& 6148914691236517205)) &&& 3689348814741910323) + ((zlushr (x0 - ((zlushr x0 1) &&& 6148914691236517205)) 2) &&& 3689348814741910323)) 4)) &&& 1085102592571150095) 8)) + (zlushr ((((((x0 - ((zlushr x0 1) &&& 6148914691236517205)) &&& 3689348814741910323) + ((zlushr (x0 - ((zlushr x0 1) &&& 6148914691236517205)) 2) &&& 3689348814741910323)) + (zlushr (((x0 - ((zlushr x0 1) &&& 6148914691236517205)) &&& 3689348814741910323) + ((zlushr (x0 - ((zlushr x0 1) &&& 6148914691236517205)) 2) &&& 3689348814741910323)) 4)) &&& 1085102592571150095) + (zlushr (((((x0 - ((zlushr x0 1) &&& 6148914691236517205)) &&& 3689348814741910323) + ((zlushr (x0 - ((zlushr x0 1) &&& 6148914691236517205)) 2) &&& 3689348814741910323)) + (zlushr (((x0 - ((zlushr x0 1) &&& 6148914691236517205)) &&& 3689348814741910323) + ((zlushr (x0 - ((zlushr x0 1) &&& 6148914691236517205)) 2) &&& 3689348814741910323)) 4)) &&& 1085102592571150095) 8)) 16)) 32)))]) hx hb dJ13_bitCount_95d88_54 rfl hl (by decide) rfl (fun ls hl => ?_)
    refine lv_lload_n hx hb dJ13_bitCount_95d88_55 rfl (lv_at hl 0 rfl) ?_
    refine lv_l2i (v := ((((((((x0 - ((zlushr x0 1) &&& 6148914691236517205)) &&& 3689348814741910323) + ((zlushr (x0 - ((zlushr x0 1) &&& 6148914691236517205)) 2) &&& 3689348814741910323)) + (zlushr (((x0 - ((zlushr x0 1) &&& 6148914691236517205)) &&& 3689348814741910323) + ((zlushr (x0 - ((zlushr x0 1) &&& 6148914691236517205)) 2) &&& 3689348814741910323)) 4)) &&& 1085102592571150095) + (zlushr (((((x0 - ((zlushr x0 1) &&& 6148914691236517205)) &&& 3689348814741910323) + ((zlushr (x0 - ((zlushr x0 1) &&& 6148914691236517205)) 2) &&& 3689348814741910323)) + (zlushr (((x0 - ((zlushr x0 1) &&& 6148914691236517205)) &&& 3689348814741910323) + ((zlushr (x0 - ((zlushr x0 1) &&& 6148914691236517205)) 2) &&& 3689348814741910323)) 4)) &&& 1085102592571150095) 8)) + (zlushr ((((((x0 - ((zlushr x0 1) &&& 6148914691236517205)) &&& 3689348814741910323) + ((zlushr (x0 - ((zlushr x0 1) &&& 6148914691236517205)) 2) &&& 3689348814741910323)) + (zlushr (((x0 - ((zlushr x0 1) &&& 6148914691236517205)) &&& 3689348814741910323) + ((zlushr (x0 - ((zlushr x0 1) &&& 6148914691236517205)) 2) &&& 3689348814741910323)) 4)) &&& 1085102592571150095) + (zlushr (((((x0 - ((zlushr x0 1) &&& 6148914691236517205)) &&& 3689348814741910323) + ((zlushr (x0 - ((zlushr x0 1) &&& 6148914691236517205)) 2) &&& 3689348814741910323)) + (zlushr (((x0 - ((zlushr x0 1) &&& 6148914691236517205)) &&& 3689348814741910323) + ((zlushr (x0 - ((zlushr x0 1) &&& 6148914691236517205)) 2) &&& 3689348814741910323)) 4)) &&& 1085102592571150095) 8)) 16)) + (zlushr (((((((x0 - ((zlushr x0 1) &&& 6148914691236517205)) &&& 3689348814741910323) + ((zlushr (x0 - ((zlushr x0 1) &&& 6148914691236517205)) 2) &&& 3689348814741910323)) + (zlushr (((x0 - ((zlushr x0 1) &&& 6148914691236517205)) &&& 3689348814741910323) + ((zlushr (x0 - ((zlushr x0 1) &&& 6148914691236517205)) 2) &&& 3689348814741910323)) 4)) &&& 1085102592571150095) + (zlushr (((((x0 - ((zlushr x0 1) &&& 6148914691236517205)) &&& 3689348814741910323) + ((zlushr (x0 - ((zlushr x0 1) &&& 6148914691236517205)) 2) &&& 3689348814741910323)) + (zlushr (((x0 - ((zlushr x0 1) &&& 6148914691236517205)) &&& 3689348814741910323) + ((zlushr (x0 - ((zlushr x0 1) &&& 6148914691236517205)) 2) &&& 3689348814741910323)) 4)) &&& 1085102592571150095) 8)) + (zlushr ((((((x0 - ((zlushr x0 1) &&& 6148914691236517205)) &&& 3689348814741910323) + ((zlushr (x0 - ((zlushr x0 1) &&& 6148914691236517205)) 2) &&& 3689348814741910323)) + (zlushr (((x0 - ((zlushr x0 1) &&& 6148914691236517205)) &&& 3689348814741910323) + ((zlushr (x0 - ((zlushr x0 1) &&& 6148914691236517205)) 2) &&& 3689348814741910323)) 4)) &&& 1085102592571150095) + (zlushr (((((x0 - ((zlushr x0 1) &&& 6148914691236517205)) &&& 3689348814741910323) + ((zlushr (x0 - ((zlushr x0 1) &&& 6148914691236517205)) 2) &&& 3689348814741910323)) + (zlushr (((x0 - ((zlushr x0 1) &&& 6148914691236517205)) &&& 3689348814741910323) + ((zlushr (x0 - ((zlushr x0 1) &&& 6148914691236517205)) 2) &&& 3689348814741910323)) 4)) &&& 1085102592571150095) 8)) 16)) 32)).toInt32) hx hb dJ13_bitCount_95d88_56 rfl ?_
    refine lv_bipush (v := 127) hx hb dJ13_bitCount_95d88_57 (by decide) ?_
    refine lv_iand hx hb dJ13_bitCount_95d88_59 ?_
    have hq := hf
    subst hq
    exact z_iret S hG hS hlocks trivial hr dJ13_bitCount_95d88_60
  exact hK0 _ _ ls hG hS hl hf
set_option maxRecDepth 100000 in
set_option maxHeartbeats 4000000 in
theorem c_X11_count (l : Launch) (D : va_G) (aC : Nat → ClassId) (zs : Nat × Nat) (A : Nat → Prop) (nl : zNL) (ad : Nat → Nat → Nat → Nat) (σ : zM) (x1 : Int32) (r : Int32)  (hf : f_X11_count σ x1 = some r) : Met l yX11_count (Cond.code yX11_count cX11_count 2 (some .int) :: wsL_law) ({ frames := 2, cells := 0, slots := 0, locals := 44 } : Room) (zP D aC zs zfX A nl ad σ [.ref (ad 11 0 0), .int x1]) (zQ (some (.int r)) (fun t => zG D aC A nl ad σ t t.heap ∧ True) A) 0 0 A := by
  refine Met.ofW (cc := cX11_count) (maxL := 2) (ret := (some .int)) (by decide) rfl ?_
  intro p e s m args below meth c s₁ B hml hv
  obtain ⟨rfl, hG, hZ⟩ := hv
  have hx := B.exec
  have hb := B.bytes
  have hr := B.returns
  have hts : ∀ w ∈ wsL_law, w.before ([.ref (ad 11 0 0), .int x1] : List Value).toArray s = true := fun w h => (atoms_spec B.pre) w (List.mem_cons_of_mem _ h)
  have hown : s.vm.findClass RX11 = some m.cls := findClass_of_methodNamed B.named
  have hlocks := B.notSynchronized
  have S : zS p m c cX11_count 2 s ([.ref (ad 11 0 0), .int x1] : List Value).toArray RX11 := ⟨hx, hb, hml, hown, hts⟩
  have hS : va_S A s.heap s.heap [] := va_S.rf
  have hl := lv_entry ([.ref (ad 11 0 0), .int x1]) (n := 2) (Nat.le_of_ble_eq_true rfl)
  rw [lg_entry_eq]
  generalize (lg_sl ([.ref (ad 11 0 0), .int x1]) ++ List.replicate (2 - (lg_sl ([.ref (ad 11 0 0), .int x1])).length) Slot.unset).toArray = ls at hl ⊢
  have hl : lv_has ls 2 [(0, .ref (ad 11 0 0)), (1, .int x1)] := hl
  generalize hargs : ([.ref (ad 11 0 0), .int x1] : List Value).toArray = args at S hts ⊢
  clear hargs
  have hK0 : ∀ (H : Heap) (locs : List Loc) (ls : Array Slot), zG D aC A nl ad σ s H → va_S A s.heap H locs → lv_has ls 2 [(0, .ref (ad 11 0 0)), (1, .int x1)] → f_X11_count σ x1 = some r → zWk p l e ({ frames := 2, cells := 0, slots := 0, locals := 44 } : Room) s m args below meth c A (some (.int r)) (fun t => zG D aC A nl ad σ t t.heap ∧ True) H locs (F0 m 0 ls []) := by
    intro H locs ls hG hS hl hf
    unfold f_X11_count at hf
    refine lv_iload_n hx hb dX11_count_0 rfl (lv_at hl 1 rfl) ?_
    by_cases c1 : x1 = 0
    · have hf := zif_p c1 hf
      refine lv_tableIn (x := x1) (off := 75) (tgt := 76) hx hb dX11_count_1 (by rw [c1]; decide) (by rw [c1]; decide) (by rw [c1]; decide) (by decide) ?_
      refine lv_aload_n hx hb dX11_count_76 rfl (lv_at hl 0 rfl) ?_
      refine z_get (c0 := 11) (i0 := 0) (k0 := 10) (T := TX11) (v := .int (zI σ 11 0 10)) S hG (hZ.2.1 (11, 0) (by decide)) rfl inlX11 (by decide) rfl zw_48 rfl dX11_count_77 ?_
      have hq := (Option.some.inj hf)
      subst hq
      exact z_iret S hG hS hlocks trivial hr dX11_count_80
    · have hf := zif_n c1 hf
      by_cases c2 : x1 = 1
      · have hf := zif_p c2 hf
        refine lv_tableIn (x := x1) (off := 80) (tgt := 81) hx hb dX11_count_1 (by rw [c2]; decide) (by rw [c2]; decide) (by rw [c2]; decide) (by decide) ?_
        refine lv_aload_n hx hb dX11_count_81 rfl (lv_at hl 0 rfl) ?_
        refine z_get (c0 := 11) (i0 := 0) (k0 := 2) (T := TX11) (v := .ref (ad 1 0 0)) S hG (hZ.2.1 (11, 0) (by decide)) rfl inlX11 (by decide) rfl zw_24 rfl dX11_count_82 ?_
        refine z_get (c0 := 1) (i0 := 0) (k0 := 2) (T := TX1) (v := .int (zI σ 1 0 2)) S hG (hZ.2.1 (1, 0) (by decide)) rfl inlX1 (by decide) rfl zw_1466 rfl dX11_count_85 ?_
        have hq := (Option.some.inj hf)
        subst hq
        exact z_iret S hG hS hlocks trivial hr dX11_count_88
      · have hf := zif_n c2 hf
        by_cases c3 : x1 = 2
        · have hf := zif_p c3 hf
          refine lv_tableIn (x := x1) (off := 88) (tgt := 89) hx hb dX11_count_1 (by rw [c3]; decide) (by rw [c3]; decide) (by rw [c3]; decide) (by decide) ?_
          refine lv_aload_n hx hb dX11_count_89 rfl (lv_at hl 0 rfl) ?_
          refine z_get (c0 := 11) (i0 := 0) (k0 := 1) (T := TX11) (v := .ref (ad 5 0 0)) S hG (hZ.2.1 (11, 0) (by decide)) rfl inlX11 (by decide) rfl zw_20 rfl dX11_count_90 ?_
          refine z_get (c0 := 5) (i0 := 0) (k0 := 1) (T := TX5) (v := .int (zI σ 5 0 1)) S hG (hZ.2.1 (5, 0) (by decide)) rfl inlX5 (by decide) rfl zw_1467 rfl dX11_count_93 ?_
          have hq := (Option.some.inj hf)
          subst hq
          exact z_iret S hG hS hlocks trivial hr dX11_count_96
        · have hf := zif_n c3 hf
          by_cases c4 : x1 = 3
          · have hf := zif_p c4 hf
            refine lv_tableIn (x := x1) (off := 96) (tgt := 97) hx hb dX11_count_1 (by rw [c4]; decide) (by rw [c4]; decide) (by rw [c4]; decide) (by decide) ?_
            refine lv_aload_n hx hb dX11_count_97 rfl (lv_at hl 0 rfl) ?_
            refine z_get (c0 := 11) (i0 := 0) (k0 := 12) (T := TX11) (v := .int (zI σ 11 0 12)) S hG (hZ.2.1 (11, 0) (by decide)) rfl inlX11 (by decide) rfl zw_50 rfl dX11_count_98 ?_
            have hq := (Option.some.inj hf)
            subst hq
            exact z_iret S hG hS hlocks trivial hr dX11_count_101
          · have hf := zif_n c4 hf
            by_cases c5 : x1 = 4
            · have hf := zif_p c5 hf
              refine lv_tableIn (x := x1) (off := 101) (tgt := 102) hx hb dX11_count_1 (by rw [c5]; decide) (by rw [c5]; decide) (by rw [c5]; decide) (by decide) ?_
              refine lv_aload_n hx hb dX11_count_102 rfl (lv_at hl 0 rfl) ?_
              obtain ⟨r6, er6, hf⟩ := zbi hf
              refine z_callV (n := 0) (rest := []) (st1 := [.int r6]) (c0 := 11) (i0 := 0) (hZ.2.1 (11, 0) (by decide)) (by rfl) S hG hS hZ (fun _ _ h => h) (c_X11_handedIn l D aC zs A nl ad σ r6 er6) zw_1471 zw_1472 zw_1473 zw_2 zw_1474 (by decide +kernel) ⟨rfl, rfl⟩ ⟨(Nat.le_of_ble_eq_true rfl), (Nat.le_of_ble_eq_true rfl)⟩ hl.1 rfl (by rfl) (by rfl) (Nat.le_of_ble_eq_true rfl) dX11_count_103 ⟨Nat.zero_le _, Nat.zero_le _⟩ (fun H locs hz7 hG hS => ?_)
              have hq := (Option.some.inj hf)
              subst hq
              exact z_iret S hG hS hlocks trivial hr dX11_count_106
            · have hf := zif_n c5 hf
              by_cases c8 : x1 = 5
              · have hf := zif_p c8 hf
                refine lv_tableIn (x := x1) (off := 106) (tgt := 107) hx hb dX11_count_1 (by rw [c8]; decide) (by rw [c8]; decide) (by rw [c8]; decide) (by decide) ?_
                refine lv_aload_n hx hb dX11_count_107 rfl (lv_at hl 0 rfl) ?_
                refine z_get (c0 := 11) (i0 := 0) (k0 := 6) (T := TX11) (v := .ref (ad 2 0 0)) S hG (hZ.2.1 (11, 0) (by decide)) rfl inlX11 (by decide) rfl zw_40 rfl dX11_count_108 ?_
                refine z_get (c0 := 2) (i0 := 0) (k0 := 1) (T := TX2) (v := .int (zI σ 2 0 1)) S hG (hZ.2.1 (2, 0) (by decide)) rfl inlX2 (by decide) rfl zw_1468 rfl dX11_count_111 ?_
                have hq := (Option.some.inj hf)
                subst hq
                exact z_iret S hG hS hlocks trivial hr dX11_count_114
              · have hf := zif_n c8 hf
                by_cases c9 : x1 = 6
                · have hf := zif_p c9 hf
                  refine lv_tableIn (x := x1) (off := 114) (tgt := 115) hx hb dX11_count_1 (by rw [c9]; decide) (by rw [c9]; decide) (by rw [c9]; decide) (by decide) ?_
                  refine lv_aload_n hx hb dX11_count_115 rfl (lv_at hl 0 rfl) ?_
                  refine z_get (c0 := 11) (i0 := 0) (k0 := 14) (T := TX11) (v := .int (zI σ 11 0 14)) S hG (hZ.2.1 (11, 0) (by decide)) rfl inlX11 (by decide) rfl zw_52 rfl dX11_count_116 ?_
                  have hq := (Option.some.inj hf)
                  subst hq
                  exact z_iret S hG hS hlocks trivial hr dX11_count_119
                · have hf := zif_n c9 hf
                  by_cases c10 : x1 = 7
                  · have hf := zif_p c10 hf
                    refine lv_tableIn (x := x1) (off := 119) (tgt := 120) hx hb dX11_count_1 (by rw [c10]; decide) (by rw [c10]; decide) (by rw [c10]; decide) (by decide) ?_
                    refine lv_aload_n hx hb dX11_count_120 rfl (lv_at hl 0 rfl) ?_
                    refine z_get (c0 := 11) (i0 := 0) (k0 := 15) (T := TX11) (v := .int (zI σ 11 0 15)) S hG (hZ.2.1 (11, 0) (by decide)) rfl inlX11 (by decide) rfl zw_53 rfl dX11_count_121 ?_
                    have hq := (Option.some.inj hf)
                    subst hq
                    exact z_iret S hG hS hlocks trivial hr dX11_count_124
                  · have hf := zif_n c10 hf
                    by_cases c11 : x1 = 8
                    · have hf := zif_p c11 hf
                      refine lv_tableIn (x := x1) (off := 124) (tgt := 125) hx hb dX11_count_1 (by rw [c11]; decide) (by rw [c11]; decide) (by rw [c11]; decide) (by decide) ?_
                      refine lv_aload_n hx hb dX11_count_125 rfl (lv_at hl 0 rfl) ?_
                      refine z_get (c0 := 11) (i0 := 0) (k0 := 5) (T := TX11) (v := .ref (ad 3 0 0)) S hG (hZ.2.1 (11, 0) (by decide)) rfl inlX11 (by decide) rfl zw_36 rfl dX11_count_126 ?_
                      refine z_get (c0 := 3) (i0 := 0) (k0 := 4) (T := TX3) (v := .int (zI σ 3 0 4)) S hG (hZ.2.1 (3, 0) (by decide)) rfl inlX3 (by decide) rfl zw_1469 rfl dX11_count_129 ?_
                      have hq := (Option.some.inj hf)
                      subst hq
                      exact z_iret S hG hS hlocks trivial hr dX11_count_132
                    · have hf := zif_n c11 hf
                      by_cases c12 : x1 = 9
                      · have hf := zif_p c12 hf
                        refine lv_tableIn (x := x1) (off := 132) (tgt := 133) hx hb dX11_count_1 (by rw [c12]; decide) (by rw [c12]; decide) (by rw [c12]; decide) (by decide) ?_
                        refine lv_aload_n hx hb dX11_count_133 rfl (lv_at hl 0 rfl) ?_
                        refine z_get (c0 := 11) (i0 := 0) (k0 := 5) (T := TX11) (v := .ref (ad 3 0 0)) S hG (hZ.2.1 (11, 0) (by decide)) rfl inlX11 (by decide) rfl zw_36 rfl dX11_count_134 ?_
                        refine z_get (c0 := 3) (i0 := 0) (k0 := 5) (T := TX3) (v := .int (zI σ 3 0 5)) S hG (hZ.2.1 (3, 0) (by decide)) rfl inlX3 (by decide) rfl zw_1470 rfl dX11_count_137 ?_
                        have hq := (Option.some.inj hf)
                        subst hq
                        exact z_iret S hG hS hlocks trivial hr dX11_count_140
                      · have hf := zif_n c12 hf
                        by_cases c13 : x1 = 10
                        · have hf := zif_p c13 hf
                          refine lv_tableIn (x := x1) (off := 140) (tgt := 141) hx hb dX11_count_1 (by rw [c13]; decide) (by rw [c13]; decide) (by rw [c13]; decide) (by decide) ?_
                          refine lv_aload_n hx hb dX11_count_141 rfl (lv_at hl 0 rfl) ?_
                          refine z_get (c0 := 11) (i0 := 0) (k0 := 13) (T := TX11) (v := .long (zJ σ 11 0 13)) S hG (hZ.2.1 (11, 0) (by decide)) rfl inlX11 (by decide) rfl zw_51 rfl dX11_count_142 ?_
                          refine z_callS (n := 1) (rest := []) (st1 := [.int (f_J13_bitCount_95d88 (zJ σ 11 0 13))]) S hG hS hZ (fun _ _ h => h) (c_J13_bitCount_95d88 l D aC zs zfX A nl ad σ (zJ σ 11 0 13) (f_J13_bitCount_95d88 (zJ σ 11 0 13)) rfl) zw_1475 zw_1476 zw_1477 zw_1478 (by decide +kernel) ⟨rfl, rfl⟩ ⟨(Nat.le_of_ble_eq_true rfl), (Nat.le_of_ble_eq_true rfl)⟩ hl.1 rfl (by rfl) (by rfl) (Nat.le_of_ble_eq_true rfl) dX11_count_145 ⟨Nat.zero_le _, Nat.zero_le _⟩ (fun H locs hz14 hG hS => ?_)
                          have hq := (Option.some.inj hf)
                          subst hq
                          exact z_iret S hG hS hlocks trivial hr dX11_count_148
                        · have hf := zif_n c13 hf
                          by_cases c15 : x1 = 11
                          · have hf := zif_p c15 hf
                            refine lv_tableIn (x := x1) (off := 148) (tgt := 149) hx hb dX11_count_1 (by rw [c15]; decide) (by rw [c15]; decide) (by rw [c15]; decide) (by decide) ?_
                            refine lv_aload_n hx hb dX11_count_149 rfl (lv_at hl 0 rfl) ?_
                            refine z_get (c0 := 11) (i0 := 0) (k0 := 18) (T := TX11) (v := .int (zI σ 11 0 18)) S hG (hZ.2.1 (11, 0) (by decide)) rfl inlX11 (by decide) rfl zw_56 rfl dX11_count_150 ?_
                            have hq := (Option.some.inj hf)
                            subst hq
                            exact z_iret S hG hS hlocks trivial hr dX11_count_153
                          · have hf := zif_n c15 hf
                            by_cases c16 : x1 = 12
                            · have hf := zif_p c16 hf
                              refine lv_tableIn (x := x1) (off := 153) (tgt := 154) hx hb dX11_count_1 (by rw [c16]; decide) (by rw [c16]; decide) (by rw [c16]; decide) (by decide) ?_
                              refine lv_aload_n hx hb dX11_count_154 rfl (lv_at hl 0 rfl) ?_
                              refine z_get (c0 := 11) (i0 := 0) (k0 := 17) (T := TX11) (v := .int (zI σ 11 0 17)) S hG (hZ.2.1 (11, 0) (by decide)) rfl inlX11 (by decide) rfl zw_55 rfl dX11_count_155 ?_
                              have hq := (Option.some.inj hf)
                              subst hq
                              exact z_iret S hG hS hlocks trivial hr dX11_count_158
                            · have hf := zif_n c16 hf
                              by_cases c17 : x1 = 13
                              · have hf := zif_p c17 hf
                                refine lv_tableIn (x := x1) (off := 158) (tgt := 159) hx hb dX11_count_1 (by rw [c17]; decide) (by rw [c17]; decide) (by rw [c17]; decide) (by decide) ?_
                                refine lv_aload_n hx hb dX11_count_159 rfl (lv_at hl 0 rfl) ?_
                                refine z_get (c0 := 11) (i0 := 0) (k0 := 0) (T := TX11) (v := .ref (ad 9 0 0)) S hG (hZ.2.1 (11, 0) (by decide)) rfl inlX11 (by decide) rfl zw_16 rfl dX11_count_160 ?_
                                refine z_get (c0 := 9) (i0 := 0) (k0 := 1) (T := TX9) (v := .int (zI σ 9 0 1)) S hG (hZ.2.1 (9, 0) (by decide)) rfl inlX9 (by decide) rfl zw_283 rfl dX11_count_163 ?_
                                have hq := (Option.some.inj hf)
                                subst hq
                                exact z_iret S hG hS hlocks trivial hr dX11_count_166
                              · have hf := zif_n c17 hf
                                by_cases c18 : x1 = 14
                                · have hf := zif_p c18 hf
                                  refine lv_tableIn (x := x1) (off := 166) (tgt := 167) hx hb dX11_count_1 (by rw [c18]; decide) (by rw [c18]; decide) (by rw [c18]; decide) (by decide) ?_
                                  refine lv_aload_n hx hb dX11_count_167 rfl (lv_at hl 0 rfl) ?_
                                  refine z_get (c0 := 11) (i0 := 0) (k0 := 16) (T := TX11) (v := .int (zI σ 11 0 16)) S hG (hZ.2.1 (11, 0) (by decide)) rfl inlX11 (by decide) rfl zw_54 rfl dX11_count_168 ?_
                                  have hq := (Option.some.inj hf)
                                  subst hq
                                  exact z_iret S hG hS hlocks trivial hr dX11_count_171
                                · have hf := zif_n c18 hf
                                  have hout : x1.toInt < 0 ∨ 14 < x1.toInt := by
                                    rcases (show x1.toInt < 0 ∨ 14 < x1.toInt ∨ x1.toInt = 0 ∨ x1.toInt = 1 ∨ x1.toInt = 2 ∨ x1.toInt = 3 ∨ x1.toInt = 4 ∨ x1.toInt = 5 ∨ x1.toInt = 6 ∨ x1.toInt = 7 ∨ x1.toInt = 8 ∨ x1.toInt = 9 ∨ x1.toInt = 10 ∨ x1.toInt = 11 ∨ x1.toInt = 12 ∨ x1.toInt = 13 ∨ x1.toInt = 14 by omega) with h | h | h | h | h | h | h | h | h | h | h | h | h | h | h | h | h
                                    · exact Or.inl h
                                    · exact Or.inr h
                                    · exact absurd (Int32.toInt_inj.mp (h.trans (by decide : (0 : Int) = (0 : Int32).toInt))) c1
                                    · exact absurd (Int32.toInt_inj.mp (h.trans (by decide : (1 : Int) = (1 : Int32).toInt))) c2
                                    · exact absurd (Int32.toInt_inj.mp (h.trans (by decide : (2 : Int) = (2 : Int32).toInt))) c3
                                    · exact absurd (Int32.toInt_inj.mp (h.trans (by decide : (3 : Int) = (3 : Int32).toInt))) c4
                                    · exact absurd (Int32.toInt_inj.mp (h.trans (by decide : (4 : Int) = (4 : Int32).toInt))) c5
                                    · exact absurd (Int32.toInt_inj.mp (h.trans (by decide : (5 : Int) = (5 : Int32).toInt))) c8
                                    · exact absurd (Int32.toInt_inj.mp (h.trans (by decide : (6 : Int) = (6 : Int32).toInt))) c9
                                    · exact absurd (Int32.toInt_inj.mp (h.trans (by decide : (7 : Int) = (7 : Int32).toInt))) c10
                                    · exact absurd (Int32.toInt_inj.mp (h.trans (by decide : (8 : Int) = (8 : Int32).toInt))) c11
                                    · exact absurd (Int32.toInt_inj.mp (h.trans (by decide : (9 : Int) = (9 : Int32).toInt))) c12
                                    · exact absurd (Int32.toInt_inj.mp (h.trans (by decide : (10 : Int) = (10 : Int32).toInt))) c13
                                    · exact absurd (Int32.toInt_inj.mp (h.trans (by decide : (11 : Int) = (11 : Int32).toInt))) c15
                                    · exact absurd (Int32.toInt_inj.mp (h.trans (by decide : (12 : Int) = (12 : Int32).toInt))) c16
                                    · exact absurd (Int32.toInt_inj.mp (h.trans (by decide : (13 : Int) = (13 : Int32).toInt))) c17
                                    · exact absurd (Int32.toInt_inj.mp (h.trans (by decide : (14 : Int) = (14 : Int32).toInt))) c18
                                  refine lv_tableOut (x := x1) (tgt := 172) hx hb dX11_count_1 hout (by decide) ?_
                                  refine lv_iconst (v := (-1)) hx hb dX11_count_172 (by decide) ?_
                                  have hq := (Option.some.inj hf)
                                  subst hq
                                  exact z_iret S hG hS hlocks trivial hr dX11_count_173
  exact hK0 _ _ ls hG hS hl hf
set_option maxRecDepth 100000 in
set_option maxHeartbeats 4000000 in
theorem c_X12_isIn (l : Launch) (D : va_G) (aC : Nat → ClassId) (zs : Nat × Nat) (A : Nat → Prop) (nl : zNL) (ad : Nat → Nat → Nat → Nat) (σ : zM) (x0 : Int32) (x1 : Int32) (x2 : Int32) (r : Int32)  (hf : f_X12_isIn x0 x1 x2 = r) : Met l yX12_isIn (Cond.code yX12_isIn cX12_isIn 3 (some .boolean) :: wsL_law) ({ frames := 0, cells := 0, slots := 0, locals := 0 } : Room) (zP D aC zs zfM A nl ad σ [.int x0, .int x1, .int x2]) (zQ (some (.int r)) (fun t => zG D aC A nl ad σ t t.heap ∧ (r = 0 ∨ r = 1)) A) 0 0 A := by
  refine Met.ofW (cc := cX12_isIn) (maxL := 3) (ret := (some .boolean)) (by decide) rfl ?_
  intro p e s m args below meth c s₁ B hml hv
  obtain ⟨rfl, hG, hZ⟩ := hv
  have hx := B.exec
  have hb := B.bytes
  have hr := B.returns
  have hts : ∀ w ∈ wsL_law, w.before ([.int x0, .int x1, .int x2] : List Value).toArray s = true := fun w h => (atoms_spec B.pre) w (List.mem_cons_of_mem _ h)
  have hown : s.vm.findClass RX12 = some m.cls := findClass_of_methodNamed B.named
  have hlocks := B.notSynchronized
  have S : zS p m c cX12_isIn 3 s ([.int x0, .int x1, .int x2] : List Value).toArray RX12 := ⟨hx, hb, hml, hown, hts⟩
  have hS : va_S A s.heap s.heap [] := va_S.rf
  have hl := lv_entry ([.int x0, .int x1, .int x2]) (n := 3) (Nat.le_of_ble_eq_true rfl)
  rw [lg_entry_eq]
  generalize (lg_sl ([.int x0, .int x1, .int x2]) ++ List.replicate (3 - (lg_sl ([.int x0, .int x1, .int x2])).length) Slot.unset).toArray = ls at hl ⊢
  have hl : lv_has ls 3 [(0, .int x0), (1, .int x1), (2, .int x2)] := hl
  generalize hargs : ([.int x0, .int x1, .int x2] : List Value).toArray = args at S hts ⊢
  clear hargs
  have hK0 : ∀ (H : Heap) (locs : List Loc) (ls : Array Slot), zG D aC A nl ad σ s H → va_S A s.heap H locs → lv_has ls 3 [(0, .int x0), (1, .int x1), (2, .int x2)] → f_X12_isIn x0 x1 x2 = r → zWk p l e ({ frames := 0, cells := 0, slots := 0, locals := 0 } : Room) s m args below meth c A (some (.int r)) (fun t => zG D aC A nl ad σ t t.heap ∧ (r = 0 ∨ r = 1)) H locs (F0 m 0 ls []) := by
    intro H locs ls hG hS hl hf
    unfold f_X12_isIn at hf
    refine lv_iload_n hx hb dX12_isIn_0 rfl (lv_at hl 0 rfl) ?_
    refine lv_iload_n hx hb dX12_isIn_1 rfl (lv_at hl 1 rfl) ?_
    refine lv_icmp_lt (tgt := 14) hx hb dX12_isIn_2 (by decide) (fun c1 => ?_) (fun c1 => ?_)
    · have hf := zif_p c1 hf
      refine lv_iconst (v := 0) hx hb dX12_isIn_14 (by decide) ?_
      have hq := hf
      subst hq
      exact z_zret S hG hS hlocks (Or.inl rfl) hr dX12_isIn_15
    · have hf := zif_n c1 hf
      refine lv_iload_n hx hb dX12_isIn_5 rfl (lv_at hl 0 rfl) ?_
      refine lv_iload_n hx hb dX12_isIn_6 rfl (lv_at hl 2 rfl) ?_
      refine lv_icmp_gt (tgt := 14) hx hb dX12_isIn_7 (by decide) (fun c2 => ?_) (fun c2 => ?_)
      · have hf := zif_p c2 hf
        refine lv_iconst (v := 0) hx hb dX12_isIn_14 (by decide) ?_
        have hq := hf
        subst hq
        exact z_zret S hG hS hlocks (Or.inl rfl) hr dX12_isIn_15
      · have hf := zif_n c2 hf
        refine lv_iconst (v := 1) hx hb dX12_isIn_10 (by decide) ?_
        refine lv_goto (tgt := 15) hx hb dX12_isIn_11 (by decide) ?_
        have hq := hf
        subst hq
        exact z_zret S hG hS hlocks (Or.inr rfl) hr dX12_isIn_15
  exact hK0 _ _ ls hG hS hl hf
set_option maxRecDepth 100000 in
set_option maxHeartbeats 4000000 in
theorem c_X12_one (l : Launch) (D : va_G) (aC : Nat → ClassId) (zs : Nat × Nat) (A : Nat → Prop) (nl : zNL) (ad : Nat → Nat → Nat → Nat) (σ : zM) (x0 : Int32) (r : Int32)  (hf : f_X12_one x0 = r) : Met l yX12_one (Cond.code yX12_one cX12_one 1 (some .int) :: wsL_law) ({ frames := 0, cells := 0, slots := 0, locals := 0 } : Room) (zP D aC zs zfM A nl ad σ [.int x0]) (zQ (some (.int r)) (fun t => zG D aC A nl ad σ t t.heap ∧ True) A) 0 0 A := by
  refine Met.ofW (cc := cX12_one) (maxL := 1) (ret := (some .int)) (by decide) rfl ?_
  intro p e s m args below meth c s₁ B hml hv
  obtain ⟨rfl, hG, hZ⟩ := hv
  have hx := B.exec
  have hb := B.bytes
  have hr := B.returns
  have hts : ∀ w ∈ wsL_law, w.before ([.int x0] : List Value).toArray s = true := fun w h => (atoms_spec B.pre) w (List.mem_cons_of_mem _ h)
  have hown : s.vm.findClass RX12 = some m.cls := findClass_of_methodNamed B.named
  have hlocks := B.notSynchronized
  have S : zS p m c cX12_one 1 s ([.int x0] : List Value).toArray RX12 := ⟨hx, hb, hml, hown, hts⟩
  have hS : va_S A s.heap s.heap [] := va_S.rf
  have hl := lv_entry ([.int x0]) (n := 1) (Nat.le_of_ble_eq_true rfl)
  rw [lg_entry_eq]
  generalize (lg_sl ([.int x0]) ++ List.replicate (1 - (lg_sl ([.int x0])).length) Slot.unset).toArray = ls at hl ⊢
  have hl : lv_has ls 1 [(0, .int x0)] := hl
  generalize hargs : ([.int x0] : List Value).toArray = args at S hts ⊢
  clear hargs
  have hK0 : ∀ (H : Heap) (locs : List Loc) (ls : Array Slot), zG D aC A nl ad σ s H → va_S A s.heap H locs → lv_has ls 1 [(0, .int x0)] → f_X12_one x0 = r → zWk p l e ({ frames := 0, cells := 0, slots := 0, locals := 0 } : Room) s m args below meth c A (some (.int r)) (fun t => zG D aC A nl ad σ t t.heap ∧ True) H locs (F0 m 0 ls []) := by
    intro H locs ls hG hS hl hf
    unfold f_X12_one at hf
    refine lv_iload_n hx hb dX12_one_0 rfl (lv_at hl 0 rfl) ?_
    refine lv_if_eq (tgt := 8) hx hb dX12_one_1 (by decide) (fun c1 => ?_) (fun c1 => ?_)
    · have hf := zif_p c1 hf
      refine lv_iconst (v := 0) hx hb dX12_one_8 (by decide) ?_
      have hq := hf
      subst hq
      exact z_iret S hG hS hlocks trivial hr dX12_one_9
    · have hf := zif_n c1 hf
      refine lv_iconst (v := 1) hx hb dX12_one_4 (by decide) ?_
      refine lv_goto (tgt := 9) hx hb dX12_one_5 (by decide) ?_
      have hq := hf
      subst hq
      exact z_iret S hG hS hlocks trivial hr dX12_one_9
  exact hK0 _ _ ls hG hS hl hf
set_option maxRecDepth 100000 in
set_option maxHeartbeats 4000000 in
theorem c_X12_isScheme (l : Launch) (D : va_G) (aC : Nat → ClassId) (zs : Nat × Nat) (A : Nat → Prop) (nl : zNL) (ad : Nat → Nat → Nat → Nat) (σ : zM) (x1 : Int32) (r : Int32)  (hf : f_X12_isScheme σ x1 = r) : Met l yX12_isScheme (Cond.code yX12_isScheme cX12_isScheme 2 (some .boolean) :: wsL_law) ({ frames := 1, cells := 0, slots := 0, locals := 22 } : Room) (zP D aC zs zfM A nl ad σ [.ref (ad 12 0 0), .int x1]) (zQ (some (.int r)) (fun t => zG D aC A nl ad σ t t.heap ∧ (r = 0 ∨ r = 1)) A) 0 0 A := by
  refine Met.ofW (cc := cX12_isScheme) (maxL := 2) (ret := (some .boolean)) (by decide) rfl ?_
  intro p e s m args below meth c s₁ B hml hv
  obtain ⟨rfl, hG, hZ⟩ := hv
  have hx := B.exec
  have hb := B.bytes
  have hr := B.returns
  have hts : ∀ w ∈ wsL_law, w.before ([.ref (ad 12 0 0), .int x1] : List Value).toArray s = true := fun w h => (atoms_spec B.pre) w (List.mem_cons_of_mem _ h)
  have hown : s.vm.findClass RX12 = some m.cls := findClass_of_methodNamed B.named
  have hlocks := B.notSynchronized
  have S : zS p m c cX12_isScheme 2 s ([.ref (ad 12 0 0), .int x1] : List Value).toArray RX12 := ⟨hx, hb, hml, hown, hts⟩
  have hS : va_S A s.heap s.heap [] := va_S.rf
  have hl := lv_entry ([.ref (ad 12 0 0), .int x1]) (n := 2) (Nat.le_of_ble_eq_true rfl)
  rw [lg_entry_eq]
  generalize (lg_sl ([.ref (ad 12 0 0), .int x1]) ++ List.replicate (2 - (lg_sl ([.ref (ad 12 0 0), .int x1])).length) Slot.unset).toArray = ls at hl ⊢
  have hl : lv_has ls 2 [(0, .ref (ad 12 0 0)), (1, .int x1)] := hl
  generalize hargs : ([.ref (ad 12 0 0), .int x1] : List Value).toArray = args at S hts ⊢
  clear hargs
  have hK0 : ∀ (H : Heap) (locs : List Loc) (ls : Array Slot), zG D aC A nl ad σ s H → va_S A s.heap H locs → lv_has ls 2 [(0, .ref (ad 12 0 0)), (1, .int x1)] → f_X12_isScheme σ x1 = r → zWk p l e ({ frames := 1, cells := 0, slots := 0, locals := 22 } : Room) s m args below meth c A (some (.int r)) (fun t => zG D aC A nl ad σ t t.heap ∧ (r = 0 ∨ r = 1)) H locs (F0 m 0 ls []) := by
    intro H locs ls hG hS hl hf
    unfold f_X12_isScheme at hf
    refine lv_iload_n hx hb dX12_isScheme_0 rfl (lv_at hl 1 rfl) ?_
    refine lv_iconst (v := 0) hx hb dX12_isScheme_1 (by decide) ?_
    refine lv_aload_n hx hb dX12_isScheme_2 rfl (lv_at hl 0 rfl) ?_
    refine z_get (c0 := 12) (i0 := 0) (k0 := 1) (T := TX12) (v := .int (zI σ 12 0 1)) S hG (hZ.2.1 (12, 0) (by decide)) rfl inlX12 (by decide) rfl zw_801 rfl dX12_isScheme_3 ?_
    refine lv_iconst (v := 1) hx hb dX12_isScheme_6 (by decide) ?_
    refine lv_isub hx hb dX12_isScheme_7 ?_
    refine z_callS (n := 3) (rest := []) (st1 := [.int (f_X12_isIn x1 0 ((zI σ 12 0 1) - 1))]) S hG hS hZ (fun _ _ h => h) (c_X12_isIn l D aC zs A nl ad σ x1 0 ((zI σ 12 0 1) - 1) (f_X12_isIn x1 0 ((zI σ 12 0 1) - 1)) rfl) zw_514 zw_515 zw_5 zw_516 (by decide +kernel) ⟨rfl, rfl⟩ ⟨(Nat.le_of_ble_eq_true rfl), (Nat.le_of_ble_eq_true rfl)⟩ hl.1 rfl (by rfl) (by rfl) (Nat.le_of_ble_eq_true rfl) dX12_isScheme_8 ⟨Nat.zero_le _, Nat.zero_le _⟩ (fun H locs hz1 hG hS => ?_)
    have hq := hf
    subst hq
    exact z_zret S hG hS hlocks hz1 hr dX12_isScheme_11
  exact hK0 _ _ ls hG hS hl hf
set_option maxRecDepth 100000 in
set_option maxHeartbeats 4000000 in
theorem c_X12_isDay (l : Launch) (D : va_G) (aC : Nat → ClassId) (zs : Nat × Nat) (A : Nat → Prop) (nl : zNL) (ad : Nat → Nat → Nat → Nat) (σ : zM) (x0 : Int32) (r : Int32)  (hf : f_X12_isDay x0 = r) : Met l yX12_isDay (Cond.code yX12_isDay cX12_isDay 1 (some .boolean) :: wsL_law) ({ frames := 1, cells := 0, slots := 0, locals := 22 } : Room) (zP D aC zs zfM A nl ad σ [.int x0]) (zQ (some (.int r)) (fun t => zG D aC A nl ad σ t t.heap ∧ (r = 0 ∨ r = 1)) A) 0 0 A := by
  refine Met.ofW (cc := cX12_isDay) (maxL := 1) (ret := (some .boolean)) (by decide) rfl ?_
  intro p e s m args below meth c s₁ B hml hv
  obtain ⟨rfl, hG, hZ⟩ := hv
  have hx := B.exec
  have hb := B.bytes
  have hr := B.returns
  have hts : ∀ w ∈ wsL_law, w.before ([.int x0] : List Value).toArray s = true := fun w h => (atoms_spec B.pre) w (List.mem_cons_of_mem _ h)
  have hown : s.vm.findClass RX12 = some m.cls := findClass_of_methodNamed B.named
  have hlocks := B.notSynchronized
  have S : zS p m c cX12_isDay 1 s ([.int x0] : List Value).toArray RX12 := ⟨hx, hb, hml, hown, hts⟩
  have hS : va_S A s.heap s.heap [] := va_S.rf
  have hl := lv_entry ([.int x0]) (n := 1) (Nat.le_of_ble_eq_true rfl)
  rw [lg_entry_eq]
  generalize (lg_sl ([.int x0]) ++ List.replicate (1 - (lg_sl ([.int x0])).length) Slot.unset).toArray = ls at hl ⊢
  have hl : lv_has ls 1 [(0, .int x0)] := hl
  generalize hargs : ([.int x0] : List Value).toArray = args at S hts ⊢
  clear hargs
  have hK0 : ∀ (H : Heap) (locs : List Loc) (ls : Array Slot), zG D aC A nl ad σ s H → va_S A s.heap H locs → lv_has ls 1 [(0, .int x0)] → f_X12_isDay x0 = r → zWk p l e ({ frames := 1, cells := 0, slots := 0, locals := 22 } : Room) s m args below meth c A (some (.int r)) (fun t => zG D aC A nl ad σ t t.heap ∧ (r = 0 ∨ r = 1)) H locs (F0 m 0 ls []) := by
    intro H locs ls hG hS hl hf
    unfold f_X12_isDay at hf
    refine lv_iload_n hx hb dX12_isDay_0 rfl (lv_at hl 0 rfl) ?_
    refine lv_iconst (v := 0) hx hb dX12_isDay_1 (by decide) ?_
    refine lv_sipush (v := 1000) hx hb dX12_isDay_2 (by decide) ?_
    refine z_callS (n := 3) (rest := []) (st1 := [.int (f_X12_isIn x0 0 1000)]) S hG hS hZ (fun _ _ h => h) (c_X12_isIn l D aC zs A nl ad σ x0 0 1000 (f_X12_isIn x0 0 1000) rfl) zw_514 zw_515 zw_5 zw_516 (by decide +kernel) ⟨rfl, rfl⟩ ⟨(Nat.le_of_ble_eq_true rfl), (Nat.le_of_ble_eq_true rfl)⟩ hl.1 rfl (by rfl) (by rfl) (Nat.le_of_ble_eq_true rfl) dX12_isDay_5 ⟨Nat.zero_le _, Nat.zero_le _⟩ (fun H locs hz1 hG hS => ?_)
    have hq := hf
    subst hq
    exact z_zret S hG hS hlocks hz1 hr dX12_isDay_8
  exact hK0 _ _ ls hG hS hl hf
set_option maxRecDepth 100000 in
set_option maxHeartbeats 4000000 in
theorem c_X12_isSpot (l : Launch) (D : va_G) (aC : Nat → ClassId) (zs : Nat × Nat) (A : Nat → Prop) (nl : zNL) (ad : Nat → Nat → Nat → Nat) (σ : zM) (x0 : Int32) (x1 : Int32) (x2 : Int32) (r : Int32)  (hf : f_X12_isSpot x0 x1 x2 = r) : Met l yX12_isSpot (Cond.code yX12_isSpot cX12_isSpot 3 (some .boolean) :: wsL_law) ({ frames := 1, cells := 0, slots := 0, locals := 22 } : Room) (zP D aC zs zfM A nl ad σ [.int x0, .int x1, .int x2]) (zQ (some (.int r)) (fun t => zG D aC A nl ad σ t t.heap ∧ (r = 0 ∨ r = 1)) A) 0 0 A := by
  refine Met.ofW (cc := cX12_isSpot) (maxL := 3) (ret := (some .boolean)) (by decide) rfl ?_
  intro p e s m args below meth c s₁ B hml hv
  obtain ⟨rfl, hG, hZ⟩ := hv
  have hx := B.exec
  have hb := B.bytes
  have hr := B.returns
  have hts : ∀ w ∈ wsL_law, w.before ([.int x0, .int x1, .int x2] : List Value).toArray s = true := fun w h => (atoms_spec B.pre) w (List.mem_cons_of_mem _ h)
  have hown : s.vm.findClass RX12 = some m.cls := findClass_of_methodNamed B.named
  have hlocks := B.notSynchronized
  have S : zS p m c cX12_isSpot 3 s ([.int x0, .int x1, .int x2] : List Value).toArray RX12 := ⟨hx, hb, hml, hown, hts⟩
  have hS : va_S A s.heap s.heap [] := va_S.rf
  have hl := lv_entry ([.int x0, .int x1, .int x2]) (n := 3) (Nat.le_of_ble_eq_true rfl)
  rw [lg_entry_eq]
  generalize (lg_sl ([.int x0, .int x1, .int x2]) ++ List.replicate (3 - (lg_sl ([.int x0, .int x1, .int x2])).length) Slot.unset).toArray = ls at hl ⊢
  have hl : lv_has ls 3 [(0, .int x0), (1, .int x1), (2, .int x2)] := hl
  generalize hargs : ([.int x0, .int x1, .int x2] : List Value).toArray = args at S hts ⊢
  clear hargs
  have hK0 : ∀ (H : Heap) (locs : List Loc) (ls : Array Slot), zG D aC A nl ad σ s H → va_S A s.heap H locs → lv_has ls 3 [(0, .int x0), (1, .int x1), (2, .int x2)] → f_X12_isSpot x0 x1 x2 = r → zWk p l e ({ frames := 1, cells := 0, slots := 0, locals := 22 } : Room) s m args below meth c A (some (.int r)) (fun t => zG D aC A nl ad σ t t.heap ∧ (r = 0 ∨ r = 1)) H locs (F0 m 0 ls []) := by
    intro H locs ls hG hS hl hf
    unfold f_X12_isSpot at hf
    refine lv_iload_n hx hb dX12_isSpot_0 rfl (lv_at hl 0 rfl) ?_
    refine lv_iconst (v := 0) hx hb dX12_isSpot_1 (by decide) ?_
    refine lv_iconst (v := 1) hx hb dX12_isSpot_2 (by decide) ?_
    refine z_callS (n := 3) (rest := []) (st1 := [.int (f_X12_isIn x0 0 1)]) S hG hS hZ (fun _ _ h => h) (c_X12_isIn l D aC zs A nl ad σ x0 0 1 (f_X12_isIn x0 0 1) rfl) zw_514 zw_515 zw_5 zw_516 (by decide +kernel) ⟨rfl, rfl⟩ ⟨(Nat.le_of_ble_eq_true rfl), (Nat.le_of_ble_eq_true rfl)⟩ hl.1 rfl (by rfl) (by rfl) (Nat.le_of_ble_eq_true rfl) dX12_isSpot_3 ⟨Nat.zero_le _, Nat.zero_le _⟩ (fun H locs hz1 hG hS => ?_)
    refine lv_if_eq (tgt := 33) hx hb dX12_isSpot_6 (by decide) (fun c2 => ?_) (fun c2 => ?_)
    · have hf := zif_p c2 hf
      refine lv_iconst (v := 0) hx hb dX12_isSpot_33 (by decide) ?_
      have hq := hf
      subst hq
      exact z_zret S hG hS hlocks (Or.inl rfl) hr dX12_isSpot_34
    · have hf := zif_n c2 hf
      refine lv_iload_n hx hb dX12_isSpot_9 rfl (lv_at hl 1 rfl) ?_
      refine lv_iconst (v := 0) hx hb dX12_isSpot_10 (by decide) ?_
      refine lv_bipush (v := 9) hx hb dX12_isSpot_11 (by decide) ?_
      refine z_callS (n := 3) (rest := []) (st1 := [.int (f_X12_isIn x1 0 9)]) S hG hS hZ (fun _ _ h => h) (c_X12_isIn l D aC zs A nl ad σ x1 0 9 (f_X12_isIn x1 0 9) rfl) zw_514 zw_515 zw_5 zw_516 (by decide +kernel) ⟨rfl, rfl⟩ ⟨(Nat.le_of_ble_eq_true rfl), (Nat.le_of_ble_eq_true rfl)⟩ hl.1 rfl (by rfl) (by rfl) (Nat.le_of_ble_eq_true rfl) dX12_isSpot_13 ⟨Nat.zero_le _, Nat.zero_le _⟩ (fun H locs hz3 hG hS => ?_)
      refine lv_if_eq (tgt := 33) hx hb dX12_isSpot_16 (by decide) (fun c4 => ?_) (fun c4 => ?_)
      · have hf := zif_p c4 hf
        refine lv_iconst (v := 0) hx hb dX12_isSpot_33 (by decide) ?_
        have hq := hf
        subst hq
        exact z_zret S hG hS hlocks (Or.inl rfl) hr dX12_isSpot_34
      · have hf := zif_n c4 hf
        refine lv_iload_n hx hb dX12_isSpot_19 rfl (lv_at hl 2 rfl) ?_
        refine lv_iconst (v := 0) hx hb dX12_isSpot_20 (by decide) ?_
        refine lv_bipush (v := 7) hx hb dX12_isSpot_21 (by decide) ?_
        refine z_callS (n := 3) (rest := []) (st1 := [.int (f_X12_isIn x2 0 7)]) S hG hS hZ (fun _ _ h => h) (c_X12_isIn l D aC zs A nl ad σ x2 0 7 (f_X12_isIn x2 0 7) rfl) zw_514 zw_515 zw_5 zw_516 (by decide +kernel) ⟨rfl, rfl⟩ ⟨(Nat.le_of_ble_eq_true rfl), (Nat.le_of_ble_eq_true rfl)⟩ hl.1 rfl (by rfl) (by rfl) (Nat.le_of_ble_eq_true rfl) dX12_isSpot_23 ⟨Nat.zero_le _, Nat.zero_le _⟩ (fun H locs hz5 hG hS => ?_)
        refine lv_if_eq (tgt := 33) hx hb dX12_isSpot_26 (by decide) (fun c6 => ?_) (fun c6 => ?_)
        · have hf := zif_p c6 hf
          refine lv_iconst (v := 0) hx hb dX12_isSpot_33 (by decide) ?_
          have hq := hf
          subst hq
          exact z_zret S hG hS hlocks (Or.inl rfl) hr dX12_isSpot_34
        · have hf := zif_n c6 hf
          refine lv_iconst (v := 1) hx hb dX12_isSpot_29 (by decide) ?_
          refine lv_goto (tgt := 34) hx hb dX12_isSpot_30 (by decide) ?_
          have hq := hf
          subst hq
          exact z_zret S hG hS hlocks (Or.inr rfl) hr dX12_isSpot_34
  exact hK0 _ _ ls hG hS hl hf
set_option maxRecDepth 100000 in
set_option maxHeartbeats 4000000 in
theorem c_X12_spot (l : Launch) (D : va_G) (aC : Nat → ClassId) (zs : Nat × Nat) (A : Nat → Prop) (nl : zNL) (ad : Nat → Nat → Nat → Nat) (σ : zM) (x0 : Int32) (x1 : Int32) (x2 : Int32) (r : Int32)  (hf : f_X12_spot x0 x1 x2 = r) : Met l yX12_spot (Cond.code yX12_spot cX12_spot 3 (some .int) :: wsL_law) ({ frames := 0, cells := 0, slots := 0, locals := 0 } : Room) (zP D aC zs zfM A nl ad σ [.int x0, .int x1, .int x2]) (zQ (some (.int r)) (fun t => zG D aC A nl ad σ t t.heap ∧ True) A) 0 0 A := by
  refine Met.ofW (cc := cX12_spot) (maxL := 3) (ret := (some .int)) (by decide) rfl ?_
  intro p e s m args below meth c s₁ B hml hv
  obtain ⟨rfl, hG, hZ⟩ := hv
  have hx := B.exec
  have hb := B.bytes
  have hr := B.returns
  have hts : ∀ w ∈ wsL_law, w.before ([.int x0, .int x1, .int x2] : List Value).toArray s = true := fun w h => (atoms_spec B.pre) w (List.mem_cons_of_mem _ h)
  have hown : s.vm.findClass RX12 = some m.cls := findClass_of_methodNamed B.named
  have hlocks := B.notSynchronized
  have S : zS p m c cX12_spot 3 s ([.int x0, .int x1, .int x2] : List Value).toArray RX12 := ⟨hx, hb, hml, hown, hts⟩
  have hS : va_S A s.heap s.heap [] := va_S.rf
  have hl := lv_entry ([.int x0, .int x1, .int x2]) (n := 3) (Nat.le_of_ble_eq_true rfl)
  rw [lg_entry_eq]
  generalize (lg_sl ([.int x0, .int x1, .int x2]) ++ List.replicate (3 - (lg_sl ([.int x0, .int x1, .int x2])).length) Slot.unset).toArray = ls at hl ⊢
  have hl : lv_has ls 3 [(0, .int x0), (1, .int x1), (2, .int x2)] := hl
  generalize hargs : ([.int x0, .int x1, .int x2] : List Value).toArray = args at S hts ⊢
  clear hargs
  have hK0 : ∀ (H : Heap) (locs : List Loc) (ls : Array Slot), zG D aC A nl ad σ s H → va_S A s.heap H locs → lv_has ls 3 [(0, .int x0), (1, .int x1), (2, .int x2)] → f_X12_spot x0 x1 x2 = r → zWk p l e ({ frames := 0, cells := 0, slots := 0, locals := 0 } : Room) s m args below meth c A (some (.int r)) (fun t => zG D aC A nl ad σ t t.heap ∧ True) H locs (F0 m 0 ls []) := by
    intro H locs ls hG hS hl hf
    unfold f_X12_spot at hf
    refine lv_bipush (v := 80) hx hb dX12_spot_0 (by decide) ?_
    refine lv_iload_n hx hb dX12_spot_2 rfl (lv_at hl 0 rfl) ?_
    refine lv_imul hx hb dX12_spot_3 ?_
    refine lv_bipush (v := 10) hx hb dX12_spot_4 (by decide) ?_
    refine lv_iload_n hx hb dX12_spot_6 rfl (lv_at hl 2 rfl) ?_
    refine lv_imul hx hb dX12_spot_7 ?_
    refine lv_iadd hx hb dX12_spot_8 ?_
    refine lv_iload_n hx hb dX12_spot_9 rfl (lv_at hl 1 rfl) ?_
    refine lv_iadd hx hb dX12_spot_10 ?_
    have hq := hf
    subst hq
    exact z_iret S hG hS hlocks trivial hr dX12_spot_11
  exact hK0 _ _ ls hG hS hl hf
set_option maxRecDepth 100000 in
set_option maxHeartbeats 4000000 in
theorem c_X12_day (l : Launch) (D : va_G) (aC : Nat → ClassId) (zs : Nat × Nat) (A : Nat → Prop) (nl : zNL) (ad : Nat → Nat → Nat → Nat) (σ : zM) (x1 : Int32) (r : Int32) (σ' : zM)  (hf : f_X12_day σ x1 = (r, σ')) : Met l yX12_day (Cond.code yX12_day cX12_day 2 (some .boolean) :: wsL_law) ({ frames := 0, cells := 0, slots := 0, locals := 0 } : Room) (zP D aC zs zfM A nl ad σ [.ref (ad 12 0 0), .int x1]) (zQ (some (.int r)) (fun t => zG D aC A nl ad σ' t t.heap ∧ (r = 0 ∨ r = 1)) A) 0 0 A := by
  refine Met.ofW (cc := cX12_day) (maxL := 2) (ret := (some .boolean)) (by decide) rfl ?_
  intro p e s m args below meth c s₁ B hml hv
  obtain ⟨rfl, hG, hZ⟩ := hv
  have hx := B.exec
  have hb := B.bytes
  have hr := B.returns
  have hts : ∀ w ∈ wsL_law, w.before ([.ref (ad 12 0 0), .int x1] : List Value).toArray s = true := fun w h => (atoms_spec B.pre) w (List.mem_cons_of_mem _ h)
  have hown : s.vm.findClass RX12 = some m.cls := findClass_of_methodNamed B.named
  have hlocks := B.notSynchronized
  have S : zS p m c cX12_day 2 s ([.ref (ad 12 0 0), .int x1] : List Value).toArray RX12 := ⟨hx, hb, hml, hown, hts⟩
  have hS : va_S A s.heap s.heap [] := va_S.rf
  have hl := lv_entry ([.ref (ad 12 0 0), .int x1]) (n := 2) (Nat.le_of_ble_eq_true rfl)
  rw [lg_entry_eq]
  generalize (lg_sl ([.ref (ad 12 0 0), .int x1]) ++ List.replicate (2 - (lg_sl ([.ref (ad 12 0 0), .int x1])).length) Slot.unset).toArray = ls at hl ⊢
  have hl : lv_has ls 2 [(0, .ref (ad 12 0 0)), (1, .int x1)] := hl
  generalize hargs : ([.ref (ad 12 0 0), .int x1] : List Value).toArray = args at S hts ⊢
  clear hargs
  have hK0 : ∀ (H : Heap) (locs : List Loc) (ls : Array Slot), zG D aC A nl ad σ s H → va_S A s.heap H locs → lv_has ls 2 [(0, .ref (ad 12 0 0)), (1, .int x1)] → f_X12_day σ x1 = (r, σ') → zWk p l e ({ frames := 0, cells := 0, slots := 0, locals := 0 } : Room) s m args below meth c A (some (.int r)) (fun t => zG D aC A nl ad σ' t t.heap ∧ (r = 0 ∨ r = 1)) H locs (F0 m 0 ls []) := by
    intro H locs ls hG hS hl hf
    unfold f_X12_day at hf
    refine lv_iload_n hx hb dX12_day_0 rfl (lv_at hl 1 rfl) ?_
    refine lv_aload_n hx hb dX12_day_1 rfl (lv_at hl 0 rfl) ?_
    refine z_get (c0 := 12) (i0 := 0) (k0 := 0) (T := TX12) (v := .int (zI σ 12 0 0)) S hG (hZ.2.1 (12, 0) (by decide)) rfl inlX12 (by decide) rfl zw_278 rfl dX12_day_2 ?_
    refine lv_icmp_le (tgt := 15) hx hb dX12_day_5 (by decide) (fun c1 => ?_) (fun c1 => ?_)
    · have hf := zif_p c1 hf
      refine lv_iconst (v := 0) hx hb dX12_day_15 (by decide) ?_
      obtain ⟨hq1, hq2⟩ := Prod.mk.inj hf
      subst hq1
      subst hq2
      exact z_zret S hG hS hlocks (Or.inl rfl) hr dX12_day_16
    · have hf := zif_n c1 hf
      refine lv_iload_n hx hb dX12_day_8 rfl (lv_at hl 1 rfl) ?_
      refine lv_sipush (v := 1000) hx hb dX12_day_9 (by decide) ?_
      refine lv_icmp_le (tgt := 17) hx hb dX12_day_12 (by decide) (fun c2 => ?_) (fun c2 => ?_)
      · have hf := zif_p c2 hf
        refine lv_aload_n hx hb dX12_day_17 rfl (lv_at hl 0 rfl) ?_
        refine lv_iload_n hx hb dX12_day_18 rfl (lv_at hl 1 rfl) ?_
        refine z_putI (c0 := 12) (i0 := 0) (k0 := 0) (T := TX12) S hG hS tyX12 tyX12_ok nmX12 (hZ.2.1 (12, 0) (by decide)) rfl inlX12 (by decide) rfl rfl zw_278 (by decide +kernel) rfl dX12_day_19 (fun H locs hG hS => ?_)
        obtain ⟨σ3, eσ3, hf⟩ := zlt_s hf
        rw [← eσ3] at hG
        refine lv_aload_n hx hb dX12_day_22 rfl (lv_at hl 0 rfl) ?_
        refine lv_dup hx hb dX12_day_23 rfl ?_
        refine z_get (c0 := 12) (i0 := 0) (k0 := 2) (T := TX12) (v := .int (zI σ3 12 0 2)) S hG (hZ.2.1 (12, 0) (by decide)) rfl inlX12 (by decide) rfl zw_224 rfl dX12_day_24 ?_
        refine lv_iconst (v := 1) hx hb dX12_day_27 (by decide) ?_
        refine lv_iadd hx hb dX12_day_28 ?_
        refine z_putI (c0 := 12) (i0 := 0) (k0 := 2) (T := TX12) S hG hS tyX12 tyX12_ok nmX12 (hZ.2.1 (12, 0) (by decide)) rfl inlX12 (by decide) rfl rfl zw_224 (by decide +kernel) rfl dX12_day_29 (fun H locs hG hS => ?_)
        obtain ⟨σ4, eσ4, hf⟩ := zlt_s hf
        rw [← eσ4] at hG
        refine lv_iconst (v := 1) hx hb dX12_day_32 (by decide) ?_
        obtain ⟨hq1, hq2⟩ := Prod.mk.inj hf
        subst hq1
        subst hq2
        exact z_zret S hG hS hlocks (Or.inr rfl) hr dX12_day_33
      · have hf := zif_n c2 hf
        refine lv_iconst (v := 0) hx hb dX12_day_15 (by decide) ?_
        obtain ⟨hq1, hq2⟩ := Prod.mk.inj hf
        subst hq1
        subst hq2
        exact z_zret S hG hS hlocks (Or.inl rfl) hr dX12_day_16
  exact hK0 _ _ ls hG hS hl hf
set_option maxRecDepth 100000 in
set_option maxHeartbeats 4000000 in
theorem c_X12_sun (l : Launch) (D : va_G) (aC : Nat → ClassId) (zs : Nat × Nat) (A : Nat → Prop) (nl : zNL) (ad : Nat → Nat → Nat → Nat) (σ : zM) (x1 : Int32) (x2 : Int32) (r : Int32) (σ' : zM)  (hf : f_X12_sun σ x1 x2 = some (r, σ')) : Met l yX12_sun (Cond.code yX12_sun cX12_sun 3 (some .boolean) :: wsL_law) ({ frames := 1, cells := 0, slots := 0, locals := 22 } : Room) (zP D aC zs zfM A nl ad σ [.ref (ad 12 0 0), .int x1, .int x2]) (zQ (some (.int r)) (fun t => zG D aC A nl ad σ' t t.heap ∧ (r = 0 ∨ r = 1)) A) 0 0 A := by
  refine Met.ofW (cc := cX12_sun) (maxL := 3) (ret := (some .boolean)) (by decide) rfl ?_
  intro p e s m args below meth c s₁ B hml hv
  obtain ⟨rfl, hG, hZ⟩ := hv
  have hx := B.exec
  have hb := B.bytes
  have hr := B.returns
  have hts : ∀ w ∈ wsL_law, w.before ([.ref (ad 12 0 0), .int x1, .int x2] : List Value).toArray s = true := fun w h => (atoms_spec B.pre) w (List.mem_cons_of_mem _ h)
  have hown : s.vm.findClass RX12 = some m.cls := findClass_of_methodNamed B.named
  have hlocks := B.notSynchronized
  have S : zS p m c cX12_sun 3 s ([.ref (ad 12 0 0), .int x1, .int x2] : List Value).toArray RX12 := ⟨hx, hb, hml, hown, hts⟩
  have hS : va_S A s.heap s.heap [] := va_S.rf
  have hl := lv_entry ([.ref (ad 12 0 0), .int x1, .int x2]) (n := 3) (Nat.le_of_ble_eq_true rfl)
  rw [lg_entry_eq]
  generalize (lg_sl ([.ref (ad 12 0 0), .int x1, .int x2]) ++ List.replicate (3 - (lg_sl ([.ref (ad 12 0 0), .int x1, .int x2])).length) Slot.unset).toArray = ls at hl ⊢
  have hl : lv_has ls 3 [(0, .ref (ad 12 0 0)), (1, .int x1), (2, .int x2)] := hl
  generalize hargs : ([.ref (ad 12 0 0), .int x1, .int x2] : List Value).toArray = args at S hts ⊢
  clear hargs
  have hK0 : ∀ (H : Heap) (locs : List Loc) (ls : Array Slot), zG D aC A nl ad σ s H → va_S A s.heap H locs → lv_has ls 3 [(0, .ref (ad 12 0 0)), (1, .int x1), (2, .int x2)] → f_X12_sun σ x1 x2 = some (r, σ') → zWk p l e ({ frames := 1, cells := 0, slots := 0, locals := 22 } : Room) s m args below meth c A (some (.int r)) (fun t => zG D aC A nl ad σ' t t.heap ∧ (r = 0 ∨ r = 1)) H locs (F0 m 0 ls []) := by
    intro H locs ls hG hS hl hf
    unfold f_X12_sun at hf
    refine lv_iload_n hx hb dX12_sun_0 rfl (lv_at hl 1 rfl) ?_
    refine lv_iconst (v := 0) hx hb dX12_sun_1 (by decide) ?_
    refine lv_iconst (v := 3) hx hb dX12_sun_2 (by decide) ?_
    refine z_callS (n := 3) (rest := []) (st1 := [.int (f_X12_isIn x1 0 3)]) S hG hS hZ (fun _ _ h => h) (c_X12_isIn l D aC zs A nl ad σ x1 0 3 (f_X12_isIn x1 0 3) rfl) zw_514 zw_515 zw_5 zw_516 (by decide +kernel) ⟨rfl, rfl⟩ ⟨(Nat.le_of_ble_eq_true rfl), (Nat.le_of_ble_eq_true rfl)⟩ hl.1 rfl (by rfl) (by rfl) (Nat.le_of_ble_eq_true rfl) dX12_sun_3 ⟨Nat.zero_le _, Nat.zero_le _⟩ (fun H locs hz1 hG hS => ?_)
    refine lv_if_eq (tgt := 19) hx hb dX12_sun_6 (by decide) (fun c2 => ?_) (fun c2 => ?_)
    · have hf := zif_p c2 hf
      refine lv_iconst (v := 0) hx hb dX12_sun_19 (by decide) ?_
      obtain ⟨hq1, hq2⟩ := Prod.mk.inj (Option.some.inj hf)
      subst hq1
      subst hq2
      exact z_zret S hG hS hlocks (Or.inl rfl) hr dX12_sun_20
    · have hf := zif_n c2 hf
      refine lv_iload_n hx hb dX12_sun_9 rfl (lv_at hl 2 rfl) ?_
      refine lv_iconst (v := 0) hx hb dX12_sun_10 (by decide) ?_
      refine lv_bipush (v := 12) hx hb dX12_sun_11 (by decide) ?_
      refine z_callS (n := 3) (rest := []) (st1 := [.int (f_X12_isIn x2 0 12)]) S hG hS hZ (fun _ _ h => h) (c_X12_isIn l D aC zs A nl ad σ x2 0 12 (f_X12_isIn x2 0 12) rfl) zw_514 zw_515 zw_5 zw_516 (by decide +kernel) ⟨rfl, rfl⟩ ⟨(Nat.le_of_ble_eq_true rfl), (Nat.le_of_ble_eq_true rfl)⟩ hl.1 rfl (by rfl) (by rfl) (Nat.le_of_ble_eq_true rfl) dX12_sun_13 ⟨Nat.zero_le _, Nat.zero_le _⟩ (fun H locs hz3 hG hS => ?_)
      refine lv_if_ne (tgt := 21) hx hb dX12_sun_16 (by decide) (fun c4 => ?_) (fun c4 => ?_)
      · have hf := zif_n c4 hf
        refine lv_aload_n hx hb dX12_sun_21 rfl (lv_at hl 0 rfl) ?_
        refine z_get (c0 := 12) (i0 := 0) (k0 := 6) (T := TX12) (v := .ref (ad 12 0 7)) S hG (hZ.2.1 (12, 0) (by decide)) rfl inlX12 (by decide) rfl zw_228 rfl dX12_sun_22 ?_
        refine lv_iload_n hx hb dX12_sun_25 rfl (lv_at hl 1 rfl) ?_
        refine lv_iload_n hx hb dX12_sun_26 rfl (lv_at hl 2 rfl) ?_
        obtain ⟨i5, hi5, hf⟩ := zbi hf
        refine z_iast (c0 := 12) (i0 := 0) (k0 := 6) S hG hS (hZ.2.1 (12, 0) (by decide)) (by decide) rfl hi5 dX12_sun_27 (fun H locs hG hS => ?_)
        obtain ⟨σ6, eσ6, hf⟩ := zlt_s hf
        rw [← eσ6] at hG
        refine lv_aload_n hx hb dX12_sun_28 rfl (lv_at hl 0 rfl) ?_
        refine lv_dup hx hb dX12_sun_29 rfl ?_
        refine z_get (c0 := 12) (i0 := 0) (k0 := 2) (T := TX12) (v := .int (zI σ6 12 0 2)) S hG (hZ.2.1 (12, 0) (by decide)) rfl inlX12 (by decide) rfl zw_224 rfl dX12_sun_30 ?_
        refine lv_iconst (v := 1) hx hb dX12_sun_33 (by decide) ?_
        refine lv_iadd hx hb dX12_sun_34 ?_
        refine z_putI (c0 := 12) (i0 := 0) (k0 := 2) (T := TX12) S hG hS tyX12 tyX12_ok nmX12 (hZ.2.1 (12, 0) (by decide)) rfl inlX12 (by decide) rfl rfl zw_224 (by decide +kernel) rfl dX12_sun_35 (fun H locs hG hS => ?_)
        obtain ⟨σ7, eσ7, hf⟩ := zlt_s hf
        rw [← eσ7] at hG
        refine lv_iconst (v := 1) hx hb dX12_sun_38 (by decide) ?_
        obtain ⟨hq1, hq2⟩ := Prod.mk.inj (Option.some.inj hf)
        subst hq1
        subst hq2
        exact z_zret S hG hS hlocks (Or.inr rfl) hr dX12_sun_39
      · have hf := zif_p c4 hf
        refine lv_iconst (v := 0) hx hb dX12_sun_19 (by decide) ?_
        obtain ⟨hq1, hq2⟩ := Prod.mk.inj (Option.some.inj hf)
        subst hq1
        subst hq2
        exact z_zret S hG hS hlocks (Or.inl rfl) hr dX12_sun_20
  exact hK0 _ _ ls hG hS hl hf
set_option maxRecDepth 100000 in
set_option maxHeartbeats 4000000 in
theorem c_X12_scheme (l : Launch) (D : va_G) (aC : Nat → ClassId) (zs : Nat × Nat) (A : Nat → Prop) (nl : zNL) (ad : Nat → Nat → Nat → Nat) (σ : zM) (x1 : Int32) (r : Int32) (σ' : zM)  (hf : f_X12_scheme σ x1 = some (r, σ')) : Met l yX12_scheme (Cond.code yX12_scheme cX12_scheme 2 (some .int) :: wsL_law) ({ frames := 1, cells := 0, slots := 0, locals := 22 } : Room) (zP D aC zs zfM A nl ad σ [.ref (ad 12 0 0), .int x1]) (zQ (some (.int r)) (fun t => zG D aC A nl ad σ' t t.heap ∧ True) A) 0 0 A := by
  refine Met.ofW (cc := cX12_scheme) (maxL := 2) (ret := (some .int)) (by decide) rfl ?_
  intro p e s m args below meth c s₁ B hml hv
  obtain ⟨rfl, hG, hZ⟩ := hv
  have hx := B.exec
  have hb := B.bytes
  have hr := B.returns
  have hts : ∀ w ∈ wsL_law, w.before ([.ref (ad 12 0 0), .int x1] : List Value).toArray s = true := fun w h => (atoms_spec B.pre) w (List.mem_cons_of_mem _ h)
  have hown : s.vm.findClass RX12 = some m.cls := findClass_of_methodNamed B.named
  have hlocks := B.notSynchronized
  have S : zS p m c cX12_scheme 2 s ([.ref (ad 12 0 0), .int x1] : List Value).toArray RX12 := ⟨hx, hb, hml, hown, hts⟩
  have hS : va_S A s.heap s.heap [] := va_S.rf
  have hl := lv_entry ([.ref (ad 12 0 0), .int x1]) (n := 2) (Nat.le_of_ble_eq_true rfl)
  rw [lg_entry_eq]
  generalize (lg_sl ([.ref (ad 12 0 0), .int x1]) ++ List.replicate (2 - (lg_sl ([.ref (ad 12 0 0), .int x1])).length) Slot.unset).toArray = ls at hl ⊢
  have hl : lv_has ls 2 [(0, .ref (ad 12 0 0)), (1, .int x1)] := hl
  generalize hargs : ([.ref (ad 12 0 0), .int x1] : List Value).toArray = args at S hts ⊢
  clear hargs
  have hK0 : ∀ (H : Heap) (locs : List Loc) (ls : Array Slot), zG D aC A nl ad σ s H → va_S A s.heap H locs → lv_has ls 2 [(0, .ref (ad 12 0 0)), (1, .int x1)] → f_X12_scheme σ x1 = some (r, σ') → zWk p l e ({ frames := 1, cells := 0, slots := 0, locals := 22 } : Room) s m args below meth c A (some (.int r)) (fun t => zG D aC A nl ad σ' t t.heap ∧ True) H locs (F0 m 0 ls []) := by
    intro H locs ls hG hS hl hf
    unfold f_X12_scheme at hf
    refine lv_iload_n hx hb dX12_scheme_0 rfl (lv_at hl 1 rfl) ?_
    refine lv_iconst (v := 0) hx hb dX12_scheme_1 (by decide) ?_
    refine lv_bipush (v := 39) hx hb dX12_scheme_2 (by decide) ?_
    refine z_callS (n := 3) (rest := []) (st1 := [.int (f_X12_isIn x1 0 39)]) S hG hS hZ (fun _ _ h => h) (c_X12_isIn l D aC zs A nl ad σ x1 0 39 (f_X12_isIn x1 0 39) rfl) zw_514 zw_515 zw_5 zw_516 (by decide +kernel) ⟨rfl, rfl⟩ ⟨(Nat.le_of_ble_eq_true rfl), (Nat.le_of_ble_eq_true rfl)⟩ hl.1 rfl (by rfl) (by rfl) (Nat.le_of_ble_eq_true rfl) dX12_scheme_4 ⟨Nat.zero_le _, Nat.zero_le _⟩ (fun H locs hz1 hG hS => ?_)
    refine lv_if_eq (tgt := 19) hx hb dX12_scheme_7 (by decide) (fun c2 => ?_) (fun c2 => ?_)
    · have hf := zif_p c2 hf
      refine lv_iconst (v := (-1)) hx hb dX12_scheme_19 (by decide) ?_
      obtain ⟨hq1, hq2⟩ := Prod.mk.inj (Option.some.inj hf)
      subst hq1
      subst hq2
      exact z_iret S hG hS hlocks trivial hr dX12_scheme_20
    · have hf := zif_n c2 hf
      refine lv_aload_n hx hb dX12_scheme_10 rfl (lv_at hl 0 rfl) ?_
      refine z_get (c0 := 12) (i0 := 0) (k0 := 1) (T := TX12) (v := .int (zI σ 12 0 1)) S hG (hZ.2.1 (12, 0) (by decide)) rfl inlX12 (by decide) rfl zw_801 rfl dX12_scheme_11 ?_
      refine lv_bipush (v := 10) hx hb dX12_scheme_14 (by decide) ?_
      refine lv_icmp_ne (tgt := 21) hx hb dX12_scheme_16 (by decide) (fun c3 => ?_) (fun c3 => ?_)
      · have hf := zif_n c3 hf
        refine lv_aload_n hx hb dX12_scheme_21 rfl (lv_at hl 0 rfl) ?_
        refine z_get (c0 := 12) (i0 := 0) (k0 := 4) (T := TX12) (v := .ref (ad 12 0 5)) S hG (hZ.2.1 (12, 0) (by decide)) rfl inlX12 (by decide) rfl zw_226 rfl dX12_scheme_22 ?_
        refine lv_aload_n hx hb dX12_scheme_25 rfl (lv_at hl 0 rfl) ?_
        refine z_get (c0 := 12) (i0 := 0) (k0 := 1) (T := TX12) (v := .int (zI σ 12 0 1)) S hG (hZ.2.1 (12, 0) (by decide)) rfl inlX12 (by decide) rfl zw_801 rfl dX12_scheme_26 ?_
        refine lv_iload_n hx hb dX12_scheme_29 rfl (lv_at hl 1 rfl) ?_
        obtain ⟨i4, hi4, hf⟩ := zbi hf
        refine z_iast (c0 := 12) (i0 := 0) (k0 := 4) S hG hS (hZ.2.1 (12, 0) (by decide)) (by decide) rfl hi4 dX12_scheme_30 (fun H locs hG hS => ?_)
        obtain ⟨σ5, eσ5, hf⟩ := zlt_s hf
        rw [← eσ5] at hG
        refine lv_aload_n hx hb dX12_scheme_31 rfl (lv_at hl 0 rfl) ?_
        refine z_get (c0 := 12) (i0 := 0) (k0 := 5) (T := TX12) (v := .ref (ad 12 0 6)) S hG (hZ.2.1 (12, 0) (by decide)) rfl inlX12 (by decide) rfl zw_227 rfl dX12_scheme_32 ?_
        refine lv_aload_n hx hb dX12_scheme_35 rfl (lv_at hl 0 rfl) ?_
        refine z_get (c0 := 12) (i0 := 0) (k0 := 1) (T := TX12) (v := .int (zI σ5 12 0 1)) S hG (hZ.2.1 (12, 0) (by decide)) rfl inlX12 (by decide) rfl zw_801 rfl dX12_scheme_36 ?_
        refine lv_iconst (v := (-1)) hx hb dX12_scheme_39 (by decide) ?_
        obtain ⟨i6, hi6, hf⟩ := zbi hf
        refine z_iast (c0 := 12) (i0 := 0) (k0 := 5) S hG hS (hZ.2.1 (12, 0) (by decide)) (by decide) rfl hi6 dX12_scheme_40 (fun H locs hG hS => ?_)
        obtain ⟨σ7, eσ7, hf⟩ := zlt_s hf
        rw [← eσ7] at hG
        refine lv_aload_n hx hb dX12_scheme_41 rfl (lv_at hl 0 rfl) ?_
        refine lv_dup hx hb dX12_scheme_42 rfl ?_
        refine z_get (c0 := 12) (i0 := 0) (k0 := 1) (T := TX12) (v := .int (zI σ7 12 0 1)) S hG (hZ.2.1 (12, 0) (by decide)) rfl inlX12 (by decide) rfl zw_801 rfl dX12_scheme_43 ?_
        refine lv_iconst (v := 1) hx hb dX12_scheme_46 (by decide) ?_
        refine lv_iadd hx hb dX12_scheme_47 ?_
        refine z_putI (c0 := 12) (i0 := 0) (k0 := 1) (T := TX12) S hG hS tyX12 tyX12_ok nmX12 (hZ.2.1 (12, 0) (by decide)) rfl inlX12 (by decide) rfl rfl zw_801 (by decide +kernel) rfl dX12_scheme_48 (fun H locs hG hS => ?_)
        obtain ⟨σ8, eσ8, hf⟩ := zlt_s hf
        rw [← eσ8] at hG
        refine lv_aload_n hx hb dX12_scheme_51 rfl (lv_at hl 0 rfl) ?_
        refine z_get (c0 := 12) (i0 := 0) (k0 := 1) (T := TX12) (v := .int (zI σ8 12 0 1)) S hG (hZ.2.1 (12, 0) (by decide)) rfl inlX12 (by decide) rfl zw_801 rfl dX12_scheme_52 ?_
        refine lv_iconst (v := 1) hx hb dX12_scheme_55 (by decide) ?_
        refine lv_isub hx hb dX12_scheme_56 ?_
        obtain ⟨hq1, hq2⟩ := Prod.mk.inj (Option.some.inj hf)
        subst hq1
        subst hq2
        exact z_iret S hG hS hlocks trivial hr dX12_scheme_57
      · have hf := zif_p c3 hf
        refine lv_iconst (v := (-1)) hx hb dX12_scheme_19 (by decide) ?_
        obtain ⟨hq1, hq2⟩ := Prod.mk.inj (Option.some.inj hf)
        subst hq1
        subst hq2
        exact z_iret S hG hS hlocks trivial hr dX12_scheme_20
  exact hK0 _ _ ls hG hS hl hf
set_option maxRecDepth 100000 in
set_option maxHeartbeats 4000000 in
theorem c_X12_draw (l : Launch) (D : va_G) (aC : Nat → ClassId) (zs : Nat × Nat) (A : Nat → Prop) (nl : zNL) (ad : Nat → Nat → Nat → Nat) (σ : zM) (x1 : Int32) (x2 : Int32) (x3 : Int32) (x4 : Int32) (x5 : Int32) (x6 : Int32) (x7 : Int32) (r : Int32) (σ' : zM)  (hf : f_X12_draw σ x1 x2 x3 x4 x5 x6 x7 = some (r, σ')) : Met l yX12_draw (Cond.code yX12_draw cX12_draw 10 (some .boolean) :: wsL_law) ({ frames := 2, cells := 0, slots := 0, locals := 44 } : Room) (zP D aC zs zfM A nl ad σ [.ref (ad 12 0 0), .int x1, .int x2, .int x3, .int x4, .int x5, .int x6, .int x7]) (zQ (some (.int r)) (fun t => zG D aC A nl ad σ' t t.heap ∧ (r = 0 ∨ r = 1)) A) 0 0 A := by
  refine Met.ofW (cc := cX12_draw) (maxL := 10) (ret := (some .boolean)) (by decide) rfl ?_
  intro p e s m args below meth c s₁ B hml hv
  obtain ⟨rfl, hG, hZ⟩ := hv
  have hx := B.exec
  have hb := B.bytes
  have hr := B.returns
  have hts : ∀ w ∈ wsL_law, w.before ([.ref (ad 12 0 0), .int x1, .int x2, .int x3, .int x4, .int x5, .int x6, .int x7] : List Value).toArray s = true := fun w h => (atoms_spec B.pre) w (List.mem_cons_of_mem _ h)
  have hown : s.vm.findClass RX12 = some m.cls := findClass_of_methodNamed B.named
  have hlocks := B.notSynchronized
  have S : zS p m c cX12_draw 10 s ([.ref (ad 12 0 0), .int x1, .int x2, .int x3, .int x4, .int x5, .int x6, .int x7] : List Value).toArray RX12 := ⟨hx, hb, hml, hown, hts⟩
  have hS : va_S A s.heap s.heap [] := va_S.rf
  have hl := lv_entry ([.ref (ad 12 0 0), .int x1, .int x2, .int x3, .int x4, .int x5, .int x6, .int x7]) (n := 10) (Nat.le_of_ble_eq_true rfl)
  rw [lg_entry_eq]
  generalize (lg_sl ([.ref (ad 12 0 0), .int x1, .int x2, .int x3, .int x4, .int x5, .int x6, .int x7]) ++ List.replicate (10 - (lg_sl ([.ref (ad 12 0 0), .int x1, .int x2, .int x3, .int x4, .int x5, .int x6, .int x7])).length) Slot.unset).toArray = ls at hl ⊢
  have hl : lv_has ls 10 [(0, .ref (ad 12 0 0)), (1, .int x1), (2, .int x2), (3, .int x3), (4, .int x4), (5, .int x5), (6, .int x6), (7, .int x7)] := hl
  generalize hargs : ([.ref (ad 12 0 0), .int x1, .int x2, .int x3, .int x4, .int x5, .int x6, .int x7] : List Value).toArray = args at S hts ⊢
  clear hargs
  have KJ119 : ∀ (σb119 : zM) (H : Heap) (locs : List Loc) (ls : Array Slot), zG D aC A nl ad σb119 s H → va_S A s.heap H locs → lv_has ls 10 [(0, .ref (ad 12 0 0)), (1, .int x1), (2, .int x2), (3, .int x3), (4, .int x4), (5, .int x5), (6, .int x6), (7, .int x7)] → (f_X12_draw_B119 σb119 x1 x2 x3 x4 x5 x6 x7) = some (r, σ') → zWk p l e ({ frames := 2, cells := 0, slots := 0, locals := 44 } : Room) s m args below meth c A (some (.int r)) (fun t => zG D aC A nl ad σ' t t.heap ∧ (r = 0 ∨ r = 1)) H locs (F0 m 119 ls []) := by
    intro   σb119 H locs ls hG hS hl hf
    unfold f_X12_draw_B119 at hf
    refine lv_aload_n hx hb dX12_draw_119 rfl (lv_at hl 0 rfl) ?_
    refine lv_dup hx hb dX12_draw_120 rfl ?_
    refine z_get (c0 := 12) (i0 := 0) (k0 := 2) (T := TX12) (v := .int (zI σb119 12 0 2)) S hG (hZ.2.1 (12, 0) (by decide)) rfl inlX12 (by decide) rfl zw_224 rfl dX12_draw_121 ?_
    refine lv_iconst (v := 1) hx hb dX12_draw_124 (by decide) ?_
    refine lv_iadd hx hb dX12_draw_125 ?_
    refine z_putI (c0 := 12) (i0 := 0) (k0 := 2) (T := TX12) S hG hS tyX12 tyX12_ok nmX12 (hZ.2.1 (12, 0) (by decide)) rfl inlX12 (by decide) rfl rfl zw_224 (by decide +kernel) rfl dX12_draw_126 (fun H locs hG hS => ?_)
    obtain ⟨σ14, eσ14, hf⟩ := zlt_s hf
    rw [← eσ14] at hG
    refine lv_iconst (v := 1) hx hb dX12_draw_129 (by decide) ?_
    obtain ⟨hq1, hq2⟩ := Prod.mk.inj (Option.some.inj hf)
    subst hq1
    subst hq2
    exact z_zret S hG hS hlocks (Or.inr rfl) hr dX12_draw_130
  have hK0 : ∀ (H : Heap) (locs : List Loc) (ls : Array Slot), zG D aC A nl ad σ s H → va_S A s.heap H locs → lv_has ls 10 [(0, .ref (ad 12 0 0)), (1, .int x1), (2, .int x2), (3, .int x3), (4, .int x4), (5, .int x5), (6, .int x6), (7, .int x7)] → f_X12_draw σ x1 x2 x3 x4 x5 x6 x7 = some (r, σ') → zWk p l e ({ frames := 2, cells := 0, slots := 0, locals := 44 } : Room) s m args below meth c A (some (.int r)) (fun t => zG D aC A nl ad σ' t t.heap ∧ (r = 0 ∨ r = 1)) H locs (F0 m 0 ls []) := by
    intro H locs ls hG hS hl hf
    unfold f_X12_draw at hf
    refine lv_aload_n hx hb dX12_draw_0 rfl (lv_at hl 0 rfl) ?_
    refine lv_iload_n hx hb dX12_draw_1 rfl (lv_at hl 1 rfl) ?_
    refine z_callV (n := 1) (rest := []) (st1 := [.int (f_X12_isScheme σ x1)]) (c0 := 12) (i0 := 0) (hZ.2.1 (12, 0) (by decide)) (by rfl) S hG hS hZ (fun _ _ h => h) (c_X12_isScheme l D aC zs A nl ad σ x1 (f_X12_isScheme σ x1) rfl) zw_837 zw_838 zw_839 zw_5 zw_840 (by decide +kernel) ⟨rfl, rfl⟩ ⟨(Nat.le_of_ble_eq_true rfl), (Nat.le_of_ble_eq_true rfl)⟩ hl.1 rfl (by rfl) (by rfl) (Nat.le_of_ble_eq_true rfl) dX12_draw_2 ⟨Nat.zero_le _, Nat.zero_le _⟩ (fun H locs hz1 hG hS => ?_)
    refine lv_if_eq (tgt := 63) hx hb dX12_draw_5 (by decide) (fun c2 => ?_) (fun c2 => ?_)
    · have hf := zif_p c2 hf
      refine lv_iconst (v := 0) hx hb dX12_draw_63 (by decide) ?_
      obtain ⟨hq1, hq2⟩ := Prod.mk.inj (Option.some.inj hf)
      subst hq1
      subst hq2
      exact z_zret S hG hS hlocks (Or.inl rfl) hr dX12_draw_64
    · have hf := zif_n c2 hf
      refine lv_iload_n hx hb dX12_draw_8 rfl (lv_at hl 2 rfl) ?_
      refine lv_iload_n hx hb dX12_draw_9 rfl (lv_at hl 3 rfl) ?_
      refine lv_iload hx hb dX12_draw_10 (lv_at hl 4 rfl) ?_
      refine z_callS (n := 3) (rest := []) (st1 := [.int (f_X12_isSpot x2 x3 x4)]) S hG hS hZ (fun _ _ h => h) (c_X12_isSpot l D aC zs A nl ad σ x2 x3 x4 (f_X12_isSpot x2 x3 x4) rfl) zw_841 zw_842 zw_5 zw_843 (by decide +kernel) ⟨rfl, rfl⟩ ⟨(Nat.le_of_ble_eq_true rfl), (Nat.le_of_ble_eq_true rfl)⟩ hl.1 rfl (by rfl) (by rfl) (Nat.le_of_ble_eq_true rfl) dX12_draw_12 ⟨Nat.zero_le _, Nat.zero_le _⟩ (fun H locs hz3 hG hS => ?_)
      refine lv_if_eq (tgt := 63) hx hb dX12_draw_15 (by decide) (fun c4 => ?_) (fun c4 => ?_)
      · have hf := zif_p c4 hf
        refine lv_iconst (v := 0) hx hb dX12_draw_63 (by decide) ?_
        obtain ⟨hq1, hq2⟩ := Prod.mk.inj (Option.some.inj hf)
        subst hq1
        subst hq2
        exact z_zret S hG hS hlocks (Or.inl rfl) hr dX12_draw_64
      · have hf := zif_n c4 hf
        refine lv_iload_n hx hb dX12_draw_18 rfl (lv_at hl 2 rfl) ?_
        refine lv_iload hx hb dX12_draw_19 (lv_at hl 5 rfl) ?_
        refine lv_iload hx hb dX12_draw_21 (lv_at hl 6 rfl) ?_
        refine z_callS (n := 3) (rest := []) (st1 := [.int (f_X12_isSpot x2 x5 x6)]) S hG hS hZ (fun _ _ h => h) (c_X12_isSpot l D aC zs A nl ad σ x2 x5 x6 (f_X12_isSpot x2 x5 x6) rfl) zw_841 zw_842 zw_5 zw_843 (by decide +kernel) ⟨rfl, rfl⟩ ⟨(Nat.le_of_ble_eq_true rfl), (Nat.le_of_ble_eq_true rfl)⟩ hl.1 rfl (by rfl) (by rfl) (Nat.le_of_ble_eq_true rfl) dX12_draw_23 ⟨Nat.zero_le _, Nat.zero_le _⟩ (fun H locs hz5 hG hS => ?_)
        refine lv_if_eq (tgt := 63) hx hb dX12_draw_26 (by decide) (fun c6 => ?_) (fun c6 => ?_)
        · have hf := zif_p c6 hf
          refine lv_iconst (v := 0) hx hb dX12_draw_63 (by decide) ?_
          obtain ⟨hq1, hq2⟩ := Prod.mk.inj (Option.some.inj hf)
          subst hq1
          subst hq2
          exact z_zret S hG hS hlocks (Or.inl rfl) hr dX12_draw_64
        · have hf := zif_n c6 hf
          refine lv_iload_n hx hb dX12_draw_29 rfl (lv_at hl 3 rfl) ?_
          refine lv_iload hx hb dX12_draw_30 (lv_at hl 5 rfl) ?_
          refine lv_icmp_gt (tgt := 63) hx hb dX12_draw_32 (by decide) (fun c7 => ?_) (fun c7 => ?_)
          · have hf := zif_p c7 hf
            refine lv_iconst (v := 0) hx hb dX12_draw_63 (by decide) ?_
            obtain ⟨hq1, hq2⟩ := Prod.mk.inj (Option.some.inj hf)
            subst hq1
            subst hq2
            exact z_zret S hG hS hlocks (Or.inl rfl) hr dX12_draw_64
          · have hf := zif_n c7 hf
            refine lv_iload hx hb dX12_draw_35 (lv_at hl 4 rfl) ?_
            refine lv_iload hx hb dX12_draw_37 (lv_at hl 6 rfl) ?_
            refine lv_icmp_gt (tgt := 63) hx hb dX12_draw_39 (by decide) (fun c8 => ?_) (fun c8 => ?_)
            · have hf := zif_p c8 hf
              refine lv_iconst (v := 0) hx hb dX12_draw_63 (by decide) ?_
              obtain ⟨hq1, hq2⟩ := Prod.mk.inj (Option.some.inj hf)
              subst hq1
              subst hq2
              exact z_zret S hG hS hlocks (Or.inl rfl) hr dX12_draw_64
            · have hf := zif_n c8 hf
              refine lv_iload hx hb dX12_draw_42 (lv_at hl 7 rfl) ?_
              refine lv_iconst (v := 0) hx hb dX12_draw_44 (by decide) ?_
              refine lv_bipush (v := 14) hx hb dX12_draw_45 (by decide) ?_
              refine z_callS (n := 3) (rest := []) (st1 := [.int (f_X12_isIn x7 0 14)]) S hG hS hZ (fun _ _ h => h) (c_X12_isIn l D aC zs A nl ad σ x7 0 14 (f_X12_isIn x7 0 14) rfl) zw_514 zw_515 zw_5 zw_516 (by decide +kernel) ⟨rfl, rfl⟩ ⟨(Nat.le_of_ble_eq_true rfl), (Nat.le_of_ble_eq_true rfl)⟩ hl.1 rfl (by rfl) (by rfl) (Nat.le_of_ble_eq_true rfl) dX12_draw_47 ⟨Nat.zero_le _, Nat.zero_le _⟩ (fun H locs hz9 hG hS => ?_)
              refine lv_if_eq (tgt := 63) hx hb dX12_draw_50 (by decide) (fun c10 => ?_) (fun c10 => ?_)
              · have hf := zif_p c10 hf
                refine lv_iconst (v := 0) hx hb dX12_draw_63 (by decide) ?_
                obtain ⟨hq1, hq2⟩ := Prod.mk.inj (Option.some.inj hf)
                subst hq1
                subst hq2
                exact z_zret S hG hS hlocks (Or.inl rfl) hr dX12_draw_64
              · have hf := zif_n c10 hf
                refine lv_aload_n hx hb dX12_draw_53 rfl (lv_at hl 0 rfl) ?_
                refine z_get (c0 := 12) (i0 := 0) (k0 := 5) (T := TX12) (v := .ref (ad 12 0 6)) S hG (hZ.2.1 (12, 0) (by decide)) rfl inlX12 (by decide) rfl zw_227 rfl dX12_draw_54 ?_
                refine lv_iload_n hx hb dX12_draw_57 rfl (lv_at hl 1 rfl) ?_
                obtain ⟨i11, hi11, hf⟩ := zbi hf
                refine z_iald (c0 := 12) (i0 := 0) (k0 := 5) S hG (hZ.2.1 (12, 0) (by decide)) (by decide) rfl hi11 dX12_draw_58 ?_
                refine lv_iconst (v := (-1)) hx hb dX12_draw_59 (by decide) ?_
                refine lv_icmp_eq (tgt := 65) hx hb dX12_draw_60 (by decide) (fun c12 => ?_) (fun c12 => ?_)
                · have hf := zif_p c12 hf
                  refine lv_iload hx hb dX12_draw_65 (lv_at hl 4 rfl) ?_
                  refine lv_istore (lv' := [(8, .int x4), (0, .ref (ad 12 0 0)), (1, .int x1), (2, .int x2), (3, .int x3), (4, .int x4), (5, .int x5), (6, .int x6), (7, .int x7)]) hx hb dX12_draw_67 hl (by decide) rfl (fun ls hl => ?_)
                  obtain ⟨t69, hw69, hfo69⟩ := zbi hf
                  have KL69 : ∀ (n : Nat) (y8l69 : Int32) (σl69 : zM) (H : Heap) (locs : List Loc) (ls : Array Slot), zG D aC A nl ad σl69 s H → va_S A s.heap H locs → lv_has ls 10 [(0, .ref (ad 12 0 0)), (1, .int x1), (2, .int x2), (3, .int x3), (4, .int x4), (5, .int x5), (6, .int x6), (7, .int x7), (8, .int y8l69)] → zwh (fun (q : (Int32 × zM)) => f_X12_draw_L69 x1 x2 x3 x4 x5 x6 x7 q.1 q.2) n (y8l69, σl69) = some t69 → zWk p l e ({ frames := 2, cells := 0, slots := 0, locals := 44 } : Room) s m args below meth c A (some (.int r)) (fun t => zG D aC A nl ad σ' t t.heap ∧ (r = 0 ∨ r = 1)) H locs (F0 m 69 ls []) := by
                    intro n
                    induction n with
                    | zero =>
                      intro y8l69 σl69 H locs ls hG hS hl hw
                      exact (zwh_0 hw).elim
                    | succ n ih69 =>
                      intro y8l69 σl69 H locs ls hG hS hl hw
                      obtain ⟨rr69, hf, hk69⟩ := zwh_u hw
                      have hf : f_X12_draw_L69 x1 x2 x3 x4 x5 x6 x7 y8l69 σl69 = some rr69 := hf
                      unfold f_X12_draw_L69 at hf
                      have KJ113_69 : ∀ (y8b113 : Int32)  (σb113_69 : zM) (H : Heap) (locs : List Loc) (ls : Array Slot), zG D aC A nl ad σb113_69 s H → va_S A s.heap H locs → lv_has ls 10 [(0, .ref (ad 12 0 0)), (1, .int x1), (2, .int x2), (3, .int x3), (4, .int x4), (5, .int x5), (6, .int x6), (7, .int x7), (8, .int y8b113)] → (f_X12_draw_B113_69 σb113_69 x1 x2 x3 x4 x5 x6 x7 y8b113) = some rr69 → zWk p l e ({ frames := 2, cells := 0, slots := 0, locals := 44 } : Room) s m args below meth c A (some (.int r)) (fun t => zG D aC A nl ad σ' t t.heap ∧ (r = 0 ∨ r = 1)) H locs (F0 m 113 ls []) := by
                        intro y8b113  σb113_69 H locs ls hG hS hl hf
                        unfold f_X12_draw_B113_69 at hf
                        refine lv_iinc (v := (y8b113 + 1)) (lv' := [(8, .int (y8b113 + 1)), (0, .ref (ad 12 0 0)), (1, .int x1), (2, .int x2), (3, .int x3), (4, .int x4), (5, .int x5), (6, .int x6), (7, .int x7)]) hx hb dX12_draw_113 hl (k := 8) rfl rfl (by decide) rfl (fun ls hl => ?_)
                        refine lv_goto (tgt := 69) hx hb dX12_draw_116 (by decide) ?_
                        cases hf
                        exact ih69 (y8b113 + 1) σb113_69 H locs ls hG hS (lv_sub hl [1, 2, 3, 4, 5, 6, 7, 8, 0] rfl) hk69
                      refine lv_iload hx hb dX12_draw_69 (lv_at hl 8 rfl) ?_
                      refine lv_iload hx hb dX12_draw_71 (lv_at hl 6 rfl) ?_
                      refine lv_icmp_gt (tgt := 119) hx hb dX12_draw_73 (by decide) (fun c23 => ?_) (fun c23 => ?_)
                      · have hf := zif_p c23 hf
                        cases hf
                        have hk69 : (σl69 : zM) = t69 := hk69
                        have hf := hfo69
                        rw [← hk69] at hf
                        have hf : (f_X12_draw_B119 σl69 x1 x2 x3 x4 x5 x6 x7) = some (r, σ') := hf
                        exact KJ119 σl69 H locs ls hG hS (lv_sub hl [0, 1, 2, 3, 4, 5, 6, 7] rfl) hf
                      · have hf := zif_n c23 hf
                        refine lv_iload_n hx hb dX12_draw_76 rfl (lv_at hl 3 rfl) ?_
                        refine lv_istore (lv' := [(9, .int x3), (0, .ref (ad 12 0 0)), (1, .int x1), (2, .int x2), (3, .int x3), (4, .int x4), (5, .int x5), (6, .int x6), (7, .int x7), (8, .int y8l69)]) hx hb dX12_draw_77 hl (by decide) rfl (fun ls hl => ?_)
                        obtain ⟨t79, hw79, hfo79⟩ := zbi hf
                        have KL79 : ∀ (n : Nat) (y9l79 : Int32) (σl79 : zM) (H : Heap) (locs : List Loc) (ls : Array Slot), zG D aC A nl ad σl79 s H → va_S A s.heap H locs → lv_has ls 10 [(0, .ref (ad 12 0 0)), (1, .int x1), (2, .int x2), (3, .int x3), (4, .int x4), (5, .int x5), (6, .int x6), (7, .int x7), (8, .int y8l69), (9, .int y9l79)] → zwh (fun (q : (Int32 × zM)) => f_X12_draw_L79 x1 x2 x3 x4 x5 x6 x7 y8l69 q.1 q.2) n (y9l79, σl79) = some t79 → zWk p l e ({ frames := 2, cells := 0, slots := 0, locals := 44 } : Room) s m args below meth c A (some (.int r)) (fun t => zG D aC A nl ad σ' t t.heap ∧ (r = 0 ∨ r = 1)) H locs (F0 m 79 ls []) := by
                          intro n
                          induction n with
                          | zero =>
                            intro y9l79 σl79 H locs ls hG hS hl hw
                            exact (zwh_0 hw).elim
                          | succ n ih79 =>
                            intro y9l79 σl79 H locs ls hG hS hl hw
                            obtain ⟨rr79, hf, hk79⟩ := zwh_u hw
                            have hf : f_X12_draw_L79 x1 x2 x3 x4 x5 x6 x7 y8l69 y9l79 σl79 = some rr79 := hf
                            unfold f_X12_draw_L79 at hf
                            refine lv_iload hx hb dX12_draw_79 (lv_at hl 9 rfl) ?_
                            refine lv_iload hx hb dX12_draw_81 (lv_at hl 5 rfl) ?_
                            refine lv_icmp_gt (tgt := 113) hx hb dX12_draw_83 (by decide) (fun c28 => ?_) (fun c28 => ?_)
                            · have hf := zif_p c28 hf
                              cases hf
                              have hk79 : (σl79 : zM) = t79 := hk79
                              have hf := hfo79
                              rw [← hk79] at hf
                              have hf : (f_X12_draw_B113_69 σl79 x1 x2 x3 x4 x5 x6 x7 y8l69) = some rr69 := hf
                              exact KJ113_69 y8l69 σl79 H locs ls hG hS (lv_sub hl [0, 1, 2, 3, 4, 5, 6, 7, 8] rfl) hf
                            · have hf := zif_n c28 hf
                              refine lv_aload_n hx hb dX12_draw_86 rfl (lv_at hl 0 rfl) ?_
                              refine z_get (c0 := 12) (i0 := 0) (k0 := 3) (T := TX12) (v := .ref (ad 12 0 4)) S hG (hZ.2.1 (12, 0) (by decide)) rfl inlX12 (by decide) rfl zw_225 rfl dX12_draw_87 ?_
                              refine lv_sipush (v := 160) hx hb dX12_draw_90 (by decide) ?_
                              refine lv_iload_n hx hb dX12_draw_93 rfl (lv_at hl 1 rfl) ?_
                              refine lv_imul hx hb dX12_draw_94 ?_
                              refine lv_iload_n hx hb dX12_draw_95 rfl (lv_at hl 2 rfl) ?_
                              refine lv_iload hx hb dX12_draw_96 (lv_at hl 9 rfl) ?_
                              refine lv_iload hx hb dX12_draw_98 (lv_at hl 8 rfl) ?_
                              refine z_callS (n := 3) (rest := [.int (160 * x1), .ref (ad 12 0 4)]) (st1 := [.int (f_X12_spot x2 y9l79 y8l69), .int (160 * x1), .ref (ad 12 0 4)]) S hG hS hZ (fun _ _ h => h) (c_X12_spot l D aC zs A nl ad σl79 x2 y9l79 y8l69 (f_X12_spot x2 y9l79 y8l69) rfl) zw_844 zw_845 zw_5 zw_846 (by decide +kernel) ⟨rfl, rfl⟩ ⟨(Nat.le_of_ble_eq_true rfl), (Nat.le_of_ble_eq_true rfl)⟩ hl.1 rfl (by rfl) (by rfl) (Nat.le_of_ble_eq_true rfl) dX12_draw_100 ⟨Nat.zero_le _, Nat.zero_le _⟩ (fun H locs hz29 hG hS => ?_)
                              refine lv_iadd hx hb dX12_draw_103 ?_
                              refine lv_iload hx hb dX12_draw_104 (lv_at hl 7 rfl) ?_
                              obtain ⟨i30, hi30, hf⟩ := zbi hf
                              refine z_iast (c0 := 12) (i0 := 0) (k0 := 3) S hG hS (hZ.2.1 (12, 0) (by decide)) (by decide) rfl hi30 dX12_draw_106 (fun H locs hG hS => ?_)
                              obtain ⟨σ31, eσ31, hf⟩ := zlt_s hf
                              rw [← eσ31] at hG
                              refine lv_iinc (v := (y9l79 + 1)) (lv' := [(9, .int (y9l79 + 1)), (0, .ref (ad 12 0 0)), (1, .int x1), (2, .int x2), (3, .int x3), (4, .int x4), (5, .int x5), (6, .int x6), (7, .int x7), (8, .int y8l69)]) hx hb dX12_draw_107 hl (k := 9) rfl rfl (by decide) rfl (fun ls hl => ?_)
                              refine lv_goto (tgt := 79) hx hb dX12_draw_110 (by decide) ?_
                              cases hf
                              exact ih79 (y9l79 + 1) σ31 H locs ls hG hS (lv_sub hl [1, 2, 3, 4, 5, 6, 7, 8, 9, 0] rfl) hk79
                        exact KL79 zFu x3 σl69 H locs ls hG hS (lv_sub hl [1, 2, 3, 4, 5, 6, 7, 8, 9, 0] rfl) hw79
                  exact KL69 zFu x4 σ H locs ls hG hS (lv_sub hl [1, 2, 3, 4, 5, 6, 7, 8, 0] rfl) hw69
                · have hf := zif_n c12 hf
                  refine lv_iconst (v := 0) hx hb dX12_draw_63 (by decide) ?_
                  obtain ⟨hq1, hq2⟩ := Prod.mk.inj (Option.some.inj hf)
                  subst hq1
                  subst hq2
                  exact z_zret S hG hS hlocks (Or.inl rfl) hr dX12_draw_64
  exact hK0 _ _ ls hG hS hl hf
set_option maxRecDepth 100000 in
set_option maxHeartbeats 4000000 in
theorem c_X12_cell (l : Launch) (D : va_G) (aC : Nat → ClassId) (zs : Nat × Nat) (A : Nat → Prop) (nl : zNL) (ad : Nat → Nat → Nat → Nat) (σ : zM) (x1 : Int32) (x2 : Int32) (x3 : Int32) (x4 : Int32) (r : Int32)  (hf : f_X12_cell σ x1 x2 x3 x4 = some r) : Met l yX12_cell (Cond.code yX12_cell cX12_cell 5 (some .int) :: wsL_law) ({ frames := 2, cells := 0, slots := 0, locals := 44 } : Room) (zP D aC zs zfM A nl ad σ [.ref (ad 12 0 0), .int x1, .int x2, .int x3, .int x4]) (zQ (some (.int r)) (fun t => zG D aC A nl ad σ t t.heap ∧ True) A) 0 0 A := by
  refine Met.ofW (cc := cX12_cell) (maxL := 5) (ret := (some .int)) (by decide) rfl ?_
  intro p e s m args below meth c s₁ B hml hv
  obtain ⟨rfl, hG, hZ⟩ := hv
  have hx := B.exec
  have hb := B.bytes
  have hr := B.returns
  have hts : ∀ w ∈ wsL_law, w.before ([.ref (ad 12 0 0), .int x1, .int x2, .int x3, .int x4] : List Value).toArray s = true := fun w h => (atoms_spec B.pre) w (List.mem_cons_of_mem _ h)
  have hown : s.vm.findClass RX12 = some m.cls := findClass_of_methodNamed B.named
  have hlocks := B.notSynchronized
  have S : zS p m c cX12_cell 5 s ([.ref (ad 12 0 0), .int x1, .int x2, .int x3, .int x4] : List Value).toArray RX12 := ⟨hx, hb, hml, hown, hts⟩
  have hS : va_S A s.heap s.heap [] := va_S.rf
  have hl := lv_entry ([.ref (ad 12 0 0), .int x1, .int x2, .int x3, .int x4]) (n := 5) (Nat.le_of_ble_eq_true rfl)
  rw [lg_entry_eq]
  generalize (lg_sl ([.ref (ad 12 0 0), .int x1, .int x2, .int x3, .int x4]) ++ List.replicate (5 - (lg_sl ([.ref (ad 12 0 0), .int x1, .int x2, .int x3, .int x4])).length) Slot.unset).toArray = ls at hl ⊢
  have hl : lv_has ls 5 [(0, .ref (ad 12 0 0)), (1, .int x1), (2, .int x2), (3, .int x3), (4, .int x4)] := hl
  generalize hargs : ([.ref (ad 12 0 0), .int x1, .int x2, .int x3, .int x4] : List Value).toArray = args at S hts ⊢
  clear hargs
  have hK0 : ∀ (H : Heap) (locs : List Loc) (ls : Array Slot), zG D aC A nl ad σ s H → va_S A s.heap H locs → lv_has ls 5 [(0, .ref (ad 12 0 0)), (1, .int x1), (2, .int x2), (3, .int x3), (4, .int x4)] → f_X12_cell σ x1 x2 x3 x4 = some r → zWk p l e ({ frames := 2, cells := 0, slots := 0, locals := 44 } : Room) s m args below meth c A (some (.int r)) (fun t => zG D aC A nl ad σ t t.heap ∧ True) H locs (F0 m 0 ls []) := by
    intro H locs ls hG hS hl hf
    unfold f_X12_cell at hf
    refine lv_aload_n hx hb dX12_cell_0 rfl (lv_at hl 0 rfl) ?_
    refine lv_iload_n hx hb dX12_cell_1 rfl (lv_at hl 1 rfl) ?_
    refine z_callV (n := 1) (rest := []) (st1 := [.int (f_X12_isScheme σ x1)]) (c0 := 12) (i0 := 0) (hZ.2.1 (12, 0) (by decide)) (by rfl) S hG hS hZ (fun _ _ h => h) (c_X12_isScheme l D aC zs A nl ad σ x1 (f_X12_isScheme σ x1) rfl) zw_837 zw_838 zw_839 zw_5 zw_840 (by decide +kernel) ⟨rfl, rfl⟩ ⟨(Nat.le_of_ble_eq_true rfl), (Nat.le_of_ble_eq_true rfl)⟩ hl.1 rfl (by rfl) (by rfl) (Nat.le_of_ble_eq_true rfl) dX12_cell_2 ⟨Nat.zero_le _, Nat.zero_le _⟩ (fun H locs hz1 hG hS => ?_)
    refine lv_if_eq (tgt := 39) hx hb dX12_cell_5 (by decide) (fun c2 => ?_) (fun c2 => ?_)
    · have hf := zif_p c2 hf
      refine lv_iconst (v := (-1)) hx hb dX12_cell_39 (by decide) ?_
      have hq := (Option.some.inj hf)
      subst hq
      exact z_iret S hG hS hlocks trivial hr dX12_cell_40
    · have hf := zif_n c2 hf
      refine lv_iload_n hx hb dX12_cell_8 rfl (lv_at hl 2 rfl) ?_
      refine lv_iload_n hx hb dX12_cell_9 rfl (lv_at hl 3 rfl) ?_
      refine lv_iload hx hb dX12_cell_10 (lv_at hl 4 rfl) ?_
      refine z_callS (n := 3) (rest := []) (st1 := [.int (f_X12_isSpot x2 x3 x4)]) S hG hS hZ (fun _ _ h => h) (c_X12_isSpot l D aC zs A nl ad σ x2 x3 x4 (f_X12_isSpot x2 x3 x4) rfl) zw_841 zw_842 zw_5 zw_843 (by decide +kernel) ⟨rfl, rfl⟩ ⟨(Nat.le_of_ble_eq_true rfl), (Nat.le_of_ble_eq_true rfl)⟩ hl.1 rfl (by rfl) (by rfl) (Nat.le_of_ble_eq_true rfl) dX12_cell_12 ⟨Nat.zero_le _, Nat.zero_le _⟩ (fun H locs hz3 hG hS => ?_)
      refine lv_if_eq (tgt := 39) hx hb dX12_cell_15 (by decide) (fun c4 => ?_) (fun c4 => ?_)
      · have hf := zif_p c4 hf
        refine lv_iconst (v := (-1)) hx hb dX12_cell_39 (by decide) ?_
        have hq := (Option.some.inj hf)
        subst hq
        exact z_iret S hG hS hlocks trivial hr dX12_cell_40
      · have hf := zif_n c4 hf
        refine lv_aload_n hx hb dX12_cell_18 rfl (lv_at hl 0 rfl) ?_
        refine z_get (c0 := 12) (i0 := 0) (k0 := 3) (T := TX12) (v := .ref (ad 12 0 4)) S hG (hZ.2.1 (12, 0) (by decide)) rfl inlX12 (by decide) rfl zw_225 rfl dX12_cell_19 ?_
        refine lv_sipush (v := 160) hx hb dX12_cell_22 (by decide) ?_
        refine lv_iload_n hx hb dX12_cell_25 rfl (lv_at hl 1 rfl) ?_
        refine lv_imul hx hb dX12_cell_26 ?_
        refine lv_iload_n hx hb dX12_cell_27 rfl (lv_at hl 2 rfl) ?_
        refine lv_iload_n hx hb dX12_cell_28 rfl (lv_at hl 3 rfl) ?_
        refine lv_iload hx hb dX12_cell_29 (lv_at hl 4 rfl) ?_
        refine z_callS (n := 3) (rest := [.int (160 * x1), .ref (ad 12 0 4)]) (st1 := [.int (f_X12_spot x2 x3 x4), .int (160 * x1), .ref (ad 12 0 4)]) S hG hS hZ (fun _ _ h => h) (c_X12_spot l D aC zs A nl ad σ x2 x3 x4 (f_X12_spot x2 x3 x4) rfl) zw_844 zw_845 zw_5 zw_846 (by decide +kernel) ⟨rfl, rfl⟩ ⟨(Nat.le_of_ble_eq_true rfl), (Nat.le_of_ble_eq_true rfl)⟩ hl.1 rfl (by rfl) (by rfl) (Nat.le_of_ble_eq_true rfl) dX12_cell_31 ⟨Nat.zero_le _, Nat.zero_le _⟩ (fun H locs hz5 hG hS => ?_)
        refine lv_iadd hx hb dX12_cell_34 ?_
        obtain ⟨i6, hi6, hf⟩ := zbi hf
        refine z_iald (c0 := 12) (i0 := 0) (k0 := 3) S hG (hZ.2.1 (12, 0) (by decide)) (by decide) rfl hi6 dX12_cell_35 ?_
        refine lv_goto (tgt := 40) hx hb dX12_cell_36 (by decide) ?_
        have hq := (Option.some.inj hf)
        subst hq
        exact z_iret S hG hS hlocks trivial hr dX12_cell_40
  exact hK0 _ _ ls hG hS hl hf
set_option maxRecDepth 100000 in
set_option maxHeartbeats 4000000 in
theorem c_X12_hand (l : Launch) (D : va_G) (aC : Nat → ClassId) (zs : Nat × Nat) (A : Nat → Prop) (nl : zNL) (ad : Nat → Nat → Nat → Nat) (σ : zM) (x1 : Int32) (r : Int32) (σ' : zM)  (hf : f_X12_hand σ x1 = some (r, σ')) : Met l yX12_hand (Cond.code yX12_hand cX12_hand 2 (some .boolean) :: wsL_law) ({ frames := 2, cells := 0, slots := 0, locals := 43 } : Room) (zP D aC zs zfM A nl ad σ [.ref (ad 12 0 0), .int x1]) (zQ (some (.int r)) (fun t => zG D aC A nl ad σ' t t.heap ∧ (r = 0 ∨ r = 1)) A) 0 0 A := by
  refine Met.ofW (cc := cX12_hand) (maxL := 2) (ret := (some .boolean)) (by decide) rfl ?_
  intro p e s m args below meth c s₁ B hml hv
  obtain ⟨rfl, hG, hZ⟩ := hv
  have hx := B.exec
  have hb := B.bytes
  have hr := B.returns
  have hts : ∀ w ∈ wsL_law, w.before ([.ref (ad 12 0 0), .int x1] : List Value).toArray s = true := fun w h => (atoms_spec B.pre) w (List.mem_cons_of_mem _ h)
  have hown : s.vm.findClass RX12 = some m.cls := findClass_of_methodNamed B.named
  have hlocks := B.notSynchronized
  have S : zS p m c cX12_hand 2 s ([.ref (ad 12 0 0), .int x1] : List Value).toArray RX12 := ⟨hx, hb, hml, hown, hts⟩
  have hS : va_S A s.heap s.heap [] := va_S.rf
  have hl := lv_entry ([.ref (ad 12 0 0), .int x1]) (n := 2) (Nat.le_of_ble_eq_true rfl)
  rw [lg_entry_eq]
  generalize (lg_sl ([.ref (ad 12 0 0), .int x1]) ++ List.replicate (2 - (lg_sl ([.ref (ad 12 0 0), .int x1])).length) Slot.unset).toArray = ls at hl ⊢
  have hl : lv_has ls 2 [(0, .ref (ad 12 0 0)), (1, .int x1)] := hl
  generalize hargs : ([.ref (ad 12 0 0), .int x1] : List Value).toArray = args at S hts ⊢
  clear hargs
  have hK0 : ∀ (H : Heap) (locs : List Loc) (ls : Array Slot), zG D aC A nl ad σ s H → va_S A s.heap H locs → lv_has ls 2 [(0, .ref (ad 12 0 0)), (1, .int x1)] → f_X12_hand σ x1 = some (r, σ') → zWk p l e ({ frames := 2, cells := 0, slots := 0, locals := 43 } : Room) s m args below meth c A (some (.int r)) (fun t => zG D aC A nl ad σ' t t.heap ∧ (r = 0 ∨ r = 1)) H locs (F0 m 0 ls []) := by
    intro H locs ls hG hS hl hf
    unfold f_X12_hand at hf
    refine lv_aload_n hx hb dX12_hand_0 rfl (lv_at hl 0 rfl) ?_
    refine lv_iload_n hx hb dX12_hand_1 rfl (lv_at hl 1 rfl) ?_
    refine z_callV (n := 1) (rest := []) (st1 := [.int (f_X12_isScheme σ x1)]) (c0 := 12) (i0 := 0) (hZ.2.1 (12, 0) (by decide)) (by rfl) S hG hS hZ (fun _ _ h => h) (c_X12_isScheme l D aC zs A nl ad σ x1 (f_X12_isScheme σ x1) rfl) zw_837 zw_838 zw_839 zw_5 zw_840 (by decide +kernel) ⟨rfl, rfl⟩ ⟨(Nat.le_of_ble_eq_true rfl), (Nat.le_of_ble_eq_true rfl)⟩ hl.1 rfl (by rfl) (by rfl) (Nat.le_of_ble_eq_true rfl) dX12_hand_2 ⟨Nat.zero_le _, Nat.zero_le _⟩ (fun H locs hz1 hG hS => ?_)
    refine lv_if_eq (tgt := 18) hx hb dX12_hand_5 (by decide) (fun c2 => ?_) (fun c2 => ?_)
    · have hf := zif_p c2 hf
      refine lv_iconst (v := 0) hx hb dX12_hand_18 (by decide) ?_
      obtain ⟨hq1, hq2⟩ := Prod.mk.inj (Option.some.inj hf)
      subst hq1
      subst hq2
      exact z_zret S hG hS hlocks (Or.inl rfl) hr dX12_hand_19
    · have hf := zif_n c2 hf
      refine lv_aload_n hx hb dX12_hand_8 rfl (lv_at hl 0 rfl) ?_
      refine z_get (c0 := 12) (i0 := 0) (k0 := 5) (T := TX12) (v := .ref (ad 12 0 6)) S hG (hZ.2.1 (12, 0) (by decide)) rfl inlX12 (by decide) rfl zw_227 rfl dX12_hand_9 ?_
      refine lv_iload_n hx hb dX12_hand_12 rfl (lv_at hl 1 rfl) ?_
      obtain ⟨i3, hi3, hf⟩ := zbi hf
      refine z_iald (c0 := 12) (i0 := 0) (k0 := 5) S hG (hZ.2.1 (12, 0) (by decide)) (by decide) rfl hi3 dX12_hand_13 ?_
      refine lv_iconst (v := (-1)) hx hb dX12_hand_14 (by decide) ?_
      refine lv_icmp_eq (tgt := 20) hx hb dX12_hand_15 (by decide) (fun c4 => ?_) (fun c4 => ?_)
      · have hf := zif_p c4 hf
        refine lv_aload_n hx hb dX12_hand_20 rfl (lv_at hl 0 rfl) ?_
        refine z_get (c0 := 12) (i0 := 0) (k0 := 5) (T := TX12) (v := .ref (ad 12 0 6)) S hG (hZ.2.1 (12, 0) (by decide)) rfl inlX12 (by decide) rfl zw_227 rfl dX12_hand_21 ?_
        refine lv_iload_n hx hb dX12_hand_24 rfl (lv_at hl 1 rfl) ?_
        refine lv_aload_n hx hb dX12_hand_25 rfl (lv_at hl 0 rfl) ?_
        refine z_get (c0 := 12) (i0 := 0) (k0 := 0) (T := TX12) (v := .int (zI σ 12 0 0)) S hG (hZ.2.1 (12, 0) (by decide)) rfl inlX12 (by decide) rfl zw_278 rfl dX12_hand_26 ?_
        obtain ⟨i5, hi5, hf⟩ := zbi hf
        refine z_iast (c0 := 12) (i0 := 0) (k0 := 5) S hG hS (hZ.2.1 (12, 0) (by decide)) (by decide) rfl hi5 dX12_hand_29 (fun H locs hG hS => ?_)
        obtain ⟨σ6, eσ6, hf⟩ := zlt_s hf
        rw [← eσ6] at hG
        refine lv_aload_n hx hb dX12_hand_30 rfl (lv_at hl 0 rfl) ?_
        refine lv_dup hx hb dX12_hand_31 rfl ?_
        refine z_get (c0 := 12) (i0 := 0) (k0 := 2) (T := TX12) (v := .int (zI σ6 12 0 2)) S hG (hZ.2.1 (12, 0) (by decide)) rfl inlX12 (by decide) rfl zw_224 rfl dX12_hand_32 ?_
        refine lv_iconst (v := 1) hx hb dX12_hand_35 (by decide) ?_
        refine lv_iadd hx hb dX12_hand_36 ?_
        refine z_putI (c0 := 12) (i0 := 0) (k0 := 2) (T := TX12) S hG hS tyX12 tyX12_ok nmX12 (hZ.2.1 (12, 0) (by decide)) rfl inlX12 (by decide) rfl rfl zw_224 (by decide +kernel) rfl dX12_hand_37 (fun H locs hG hS => ?_)
        obtain ⟨σ7, eσ7, hf⟩ := zlt_s hf
        rw [← eσ7] at hG
        refine lv_iconst (v := 1) hx hb dX12_hand_40 (by decide) ?_
        obtain ⟨hq1, hq2⟩ := Prod.mk.inj (Option.some.inj hf)
        subst hq1
        subst hq2
        exact z_zret S hG hS hlocks (Or.inr rfl) hr dX12_hand_41
      · have hf := zif_n c4 hf
        refine lv_iconst (v := 0) hx hb dX12_hand_18 (by decide) ?_
        obtain ⟨hq1, hq2⟩ := Prod.mk.inj (Option.some.inj hf)
        subst hq1
        subst hq2
        exact z_zret S hG hS hlocks (Or.inl rfl) hr dX12_hand_19
  exact hK0 _ _ ls hG hS hl hf
set_option maxRecDepth 100000 in
set_option maxHeartbeats 4000000 in
theorem c_X12_beside (l : Launch) (D : va_G) (aC : Nat → ClassId) (zs : Nat × Nat) (A : Nat → Prop) (nl : zNL) (ad : Nat → Nat → Nat → Nat) (σ : zM) (x0 : Int32) (x1 : Int32) (r : Int32)  (hf : f_X12_beside x0 x1 = r) : Met l yX12_beside (Cond.code yX12_beside cX12_beside 4 (some .int) :: wsL_law) ({ frames := 1, cells := 0, slots := 0, locals := 22 } : Room) (zP D aC zs zfM A nl ad σ [.int x0, .int x1]) (zQ (some (.int r)) (fun t => zG D aC A nl ad σ t t.heap ∧ True) A) 0 0 A := by
  refine Met.ofW (cc := cX12_beside) (maxL := 4) (ret := (some .int)) (by decide) rfl ?_
  intro p e s m args below meth c s₁ B hml hv
  obtain ⟨rfl, hG, hZ⟩ := hv
  have hx := B.exec
  have hb := B.bytes
  have hr := B.returns
  have hts : ∀ w ∈ wsL_law, w.before ([.int x0, .int x1] : List Value).toArray s = true := fun w h => (atoms_spec B.pre) w (List.mem_cons_of_mem _ h)
  have hown : s.vm.findClass RX12 = some m.cls := findClass_of_methodNamed B.named
  have hlocks := B.notSynchronized
  have S : zS p m c cX12_beside 4 s ([.int x0, .int x1] : List Value).toArray RX12 := ⟨hx, hb, hml, hown, hts⟩
  have hS : va_S A s.heap s.heap [] := va_S.rf
  have hl := lv_entry ([.int x0, .int x1]) (n := 4) (Nat.le_of_ble_eq_true rfl)
  rw [lg_entry_eq]
  generalize (lg_sl ([.int x0, .int x1]) ++ List.replicate (4 - (lg_sl ([.int x0, .int x1])).length) Slot.unset).toArray = ls at hl ⊢
  have hl : lv_has ls 4 [(0, .int x0), (1, .int x1)] := hl
  generalize hargs : ([.int x0, .int x1] : List Value).toArray = args at S hts ⊢
  clear hargs
  have hK0 : ∀ (H : Heap) (locs : List Loc) (ls : Array Slot), zG D aC A nl ad σ s H → va_S A s.heap H locs → lv_has ls 4 [(0, .int x0), (1, .int x1)] → f_X12_beside x0 x1 = r → zWk p l e ({ frames := 1, cells := 0, slots := 0, locals := 22 } : Room) s m args below meth c A (some (.int r)) (fun t => zG D aC A nl ad σ t t.heap ∧ True) H locs (F0 m 0 ls []) := by
    intro H locs ls hG hS hl hf
    unfold f_X12_beside at hf
    refine lv_iload_n hx hb dX12_beside_0 rfl (lv_at hl 0 rfl) ?_
    refine lv_bipush (v := 10) hx hb dX12_beside_1 (by decide) ?_
    refine z_irem (v := (zrem x0 10)) hx hb dX12_beside_3 (by decide) rfl ?_
    refine lv_iload_n hx hb dX12_beside_4 rfl (lv_at hl 1 rfl) ?_
    refine lv_iconst (v := 1) hx hb dX12_beside_5 (by decide) ?_
    have Kv4 : ∀ (v4 : Int32) (ls : Array Slot), lv_has ls 4 [(0, .int x0), (1, .int x1)] → (if (f_X12_isIn ((zrem x0 10) + v4) 0 9) = 0 then (-1) else (if (f_X12_isIn (((zrem x0 80) / 10) + (if x1 = 0 then (-1) else (if x1 = 2 then 1 else 0) : Int32)) 0 7) = 0 then (-1) else (f_X12_spot (x0 / 80) ((zrem x0 10) + v4) (((zrem x0 80) / 10) + (if x1 = 0 then (-1) else (if x1 = 2 then 1 else 0) : Int32))))) = r → zWk p l e ({ frames := 1, cells := 0, slots := 0, locals := 22 } : Room) s m args below meth c A (some (.int r)) (fun t => zG D aC A nl ad σ t t.heap ∧ True) H locs (F0 m 23 ls [.int v4, .int (zrem x0 10)]) := by
      intro v4 ls hl hf
      refine lv_iadd hx hb dX12_beside_23 ?_
      refine lv_istore_n (lv' := [(2, .int ((zrem x0 10) + v4)), (0, .int x0), (1, .int x1)]) hx hb dX12_beside_24 rfl hl (by decide) rfl (fun ls hl => ?_)
      refine lv_iload_n hx hb dX12_beside_25 rfl (lv_at hl 1 rfl) ?_
      refine lv_bipush (v := 80) hx hb dX12_beside_26 (by decide) ?_
      refine z_irem (v := (zrem x0 80)) hx hb dX12_beside_28 (by decide) rfl ?_
      refine lv_bipush (v := 10) hx hb dX12_beside_29 (by decide) ?_
      refine lv_idiv hx hb dX12_beside_31 (by decide) ?_
      refine lv_iload_n hx hb dX12_beside_32 rfl (lv_at hl 2 rfl) ?_
      have Kv22 : ∀ (v22 : Int32) (ls : Array Slot), lv_has ls 4 [(2, .int ((zrem x0 10) + v4)), (0, .int x0), (1, .int x1)] → (if (f_X12_isIn ((zrem x0 10) + v4) 0 9) = 0 then (-1) else (if (f_X12_isIn (((zrem x0 80) / 10) + v22) 0 7) = 0 then (-1) else (f_X12_spot (x0 / 80) ((zrem x0 10) + v4) (((zrem x0 80) / 10) + v22)))) = r → zWk p l e ({ frames := 1, cells := 0, slots := 0, locals := 22 } : Room) s m args below meth c A (some (.int r)) (fun t => zG D aC A nl ad σ t t.heap ∧ True) H locs (F0 m 50 ls [.int v22, .int ((zrem x0 80) / 10)]) := by
        intro v22 ls hl hf
        refine lv_iadd hx hb dX12_beside_50 ?_
        refine lv_istore_n (lv' := [(3, .int (((zrem x0 80) / 10) + v22)), (2, .int ((zrem x0 10) + v4)), (0, .int x0), (1, .int x1)]) hx hb dX12_beside_51 rfl hl (by decide) rfl (fun ls hl => ?_)
        refine lv_iload_n hx hb dX12_beside_52 rfl (lv_at hl 1 rfl) ?_
        refine lv_iconst (v := 0) hx hb dX12_beside_53 (by decide) ?_
        refine lv_bipush (v := 9) hx hb dX12_beside_54 (by decide) ?_
        refine z_callS (n := 3) (rest := []) (st1 := [.int (f_X12_isIn ((zrem x0 10) + v4) 0 9)]) S hG hS hZ (fun _ _ h => h) (c_X12_isIn l D aC zs A nl ad σ ((zrem x0 10) + v4) 0 9 (f_X12_isIn ((zrem x0 10) + v4) 0 9) rfl) zw_514 zw_515 zw_5 zw_516 (by decide +kernel) ⟨rfl, rfl⟩ ⟨(Nat.le_of_ble_eq_true rfl), (Nat.le_of_ble_eq_true rfl)⟩ hl.1 rfl (by rfl) (by rfl) (Nat.le_of_ble_eq_true rfl) dX12_beside_56 ⟨Nat.zero_le _, Nat.zero_le _⟩ (fun H locs hz28 hG hS => ?_)
        refine lv_if_eq (tgt := 84) hx hb dX12_beside_59 (by decide) (fun c29 => ?_) (fun c29 => ?_)
        · have hf := zif_p c29 hf
          refine lv_iconst (v := (-1)) hx hb dX12_beside_84 (by decide) ?_
          have hq := hf
          subst hq
          exact z_iret S hG hS hlocks trivial hr dX12_beside_85
        · have hf := zif_n c29 hf
          refine lv_iload_n hx hb dX12_beside_62 rfl (lv_at hl 0 rfl) ?_
          refine lv_iconst (v := 0) hx hb dX12_beside_63 (by decide) ?_
          refine lv_bipush (v := 7) hx hb dX12_beside_64 (by decide) ?_
          refine z_callS (n := 3) (rest := []) (st1 := [.int (f_X12_isIn (((zrem x0 80) / 10) + v22) 0 7)]) S hG hS hZ (fun _ _ h => h) (c_X12_isIn l D aC zs A nl ad σ (((zrem x0 80) / 10) + v22) 0 7 (f_X12_isIn (((zrem x0 80) / 10) + v22) 0 7) rfl) zw_514 zw_515 zw_5 zw_516 (by decide +kernel) ⟨rfl, rfl⟩ ⟨(Nat.le_of_ble_eq_true rfl), (Nat.le_of_ble_eq_true rfl)⟩ hl.1 rfl (by rfl) (by rfl) (Nat.le_of_ble_eq_true rfl) dX12_beside_66 ⟨Nat.zero_le _, Nat.zero_le _⟩ (fun H locs hz30 hG hS => ?_)
          refine lv_if_eq (tgt := 84) hx hb dX12_beside_69 (by decide) (fun c31 => ?_) (fun c31 => ?_)
          · have hf := zif_p c31 hf
            refine lv_iconst (v := (-1)) hx hb dX12_beside_84 (by decide) ?_
            have hq := hf
            subst hq
            exact z_iret S hG hS hlocks trivial hr dX12_beside_85
          · have hf := zif_n c31 hf
            refine lv_iload_n hx hb dX12_beside_72 rfl (lv_at hl 2 rfl) ?_
            refine lv_bipush (v := 80) hx hb dX12_beside_73 (by decide) ?_
            refine lv_idiv hx hb dX12_beside_75 (by decide) ?_
            refine lv_iload_n hx hb dX12_beside_76 rfl (lv_at hl 1 rfl) ?_
            refine lv_iload_n hx hb dX12_beside_77 rfl (lv_at hl 0 rfl) ?_
            refine z_callS (n := 3) (rest := []) (st1 := [.int (f_X12_spot (x0 / 80) ((zrem x0 10) + v4) (((zrem x0 80) / 10) + v22))]) S hG hS hZ (fun _ _ h => h) (c_X12_spot l D aC zs A nl ad σ (x0 / 80) ((zrem x0 10) + v4) (((zrem x0 80) / 10) + v22) (f_X12_spot (x0 / 80) ((zrem x0 10) + v4) (((zrem x0 80) / 10) + v22)) rfl) zw_844 zw_845 zw_5 zw_846 (by decide +kernel) ⟨rfl, rfl⟩ ⟨(Nat.le_of_ble_eq_true rfl), (Nat.le_of_ble_eq_true rfl)⟩ hl.1 rfl (by rfl) (by rfl) (Nat.le_of_ble_eq_true rfl) dX12_beside_78 ⟨Nat.zero_le _, Nat.zero_le _⟩ (fun H locs hz32 hG hS => ?_)
            refine lv_goto (tgt := 85) hx hb dX12_beside_81 (by decide) ?_
            have hq := hf
            subst hq
            exact z_iret S hG hS hlocks trivial hr dX12_beside_85
      refine lv_if_ne (tgt := 40) hx hb dX12_beside_33 (by decide) (fun c20 => ?_) (fun c20 => ?_)
      · rw [if_neg c20] at hf
        refine lv_iload_n hx hb dX12_beside_40 rfl (lv_at hl 2 rfl) ?_
        refine lv_iconst (v := 2) hx hb dX12_beside_41 (by decide) ?_
        refine lv_icmp_ne (tgt := 49) hx hb dX12_beside_42 (by decide) (fun c21 => ?_) (fun c21 => ?_)
        · rw [if_neg c21] at hf
          refine lv_iconst (v := 0) hx hb dX12_beside_49 (by decide) ?_
          exact Kv22 _ ls hl hf
        · rw [if_pos c21] at hf
          refine lv_iconst (v := 1) hx hb dX12_beside_45 (by decide) ?_
          refine lv_goto (tgt := 50) hx hb dX12_beside_46 (by decide) ?_
          exact Kv22 _ ls hl hf
      · rw [if_pos c20] at hf
        refine lv_iconst (v := (-1)) hx hb dX12_beside_36 (by decide) ?_
        refine lv_goto (tgt := 50) hx hb dX12_beside_37 (by decide) ?_
        exact Kv22 _ ls hl hf
    refine lv_icmp_ne (tgt := 13) hx hb dX12_beside_6 (by decide) (fun c2 => ?_) (fun c2 => ?_)
    · rw [if_neg c2] at hf
      refine lv_iload_n hx hb dX12_beside_13 rfl (lv_at hl 1 rfl) ?_
      refine lv_iconst (v := 3) hx hb dX12_beside_14 (by decide) ?_
      refine lv_icmp_ne (tgt := 22) hx hb dX12_beside_15 (by decide) (fun c3 => ?_) (fun c3 => ?_)
      · rw [if_neg c3] at hf
        refine lv_iconst (v := 0) hx hb dX12_beside_22 (by decide) ?_
        exact Kv4 _ ls hl hf
      · rw [if_pos c3] at hf
        refine lv_iconst (v := (-1)) hx hb dX12_beside_18 (by decide) ?_
        refine lv_goto (tgt := 23) hx hb dX12_beside_19 (by decide) ?_
        exact Kv4 _ ls hl hf
    · rw [if_pos c2] at hf
      refine lv_iconst (v := 1) hx hb dX12_beside_9 (by decide) ?_
      refine lv_goto (tgt := 23) hx hb dX12_beside_10 (by decide) ?_
      exact Kv4 _ ls hl hf
  exact hK0 _ _ ls hG hS hl hf
set_option maxRecDepth 100000 in
set_option maxHeartbeats 4000000 in
theorem c_X12_at (l : Launch) (D : va_G) (aC : Nat → ClassId) (zs : Nat × Nat) (A : Nat → Prop) (nl : zNL) (ad : Nat → Nat → Nat → Nat) (σ : zM) (x1 : Int32) (x2 : Int32) (r : Int32)  (hf : f_X12_at σ x1 x2 = some r) : Met l yX12_at (Cond.code yX12_at cX12_at 3 (some .int) :: wsL_law) ({ frames := 0, cells := 0, slots := 0, locals := 0 } : Room) (zP D aC zs zfM A nl ad σ [.ref (ad 12 0 0), .int x1, .int x2]) (zQ (some (.int r)) (fun t => zG D aC A nl ad σ t t.heap ∧ True) A) 0 0 A := by
  refine Met.ofW (cc := cX12_at) (maxL := 3) (ret := (some .int)) (by decide) rfl ?_
  intro p e s m args below meth c s₁ B hml hv
  obtain ⟨rfl, hG, hZ⟩ := hv
  have hx := B.exec
  have hb := B.bytes
  have hr := B.returns
  have hts : ∀ w ∈ wsL_law, w.before ([.ref (ad 12 0 0), .int x1, .int x2] : List Value).toArray s = true := fun w h => (atoms_spec B.pre) w (List.mem_cons_of_mem _ h)
  have hown : s.vm.findClass RX12 = some m.cls := findClass_of_methodNamed B.named
  have hlocks := B.notSynchronized
  have S : zS p m c cX12_at 3 s ([.ref (ad 12 0 0), .int x1, .int x2] : List Value).toArray RX12 := ⟨hx, hb, hml, hown, hts⟩
  have hS : va_S A s.heap s.heap [] := va_S.rf
  have hl := lv_entry ([.ref (ad 12 0 0), .int x1, .int x2]) (n := 3) (Nat.le_of_ble_eq_true rfl)
  rw [lg_entry_eq]
  generalize (lg_sl ([.ref (ad 12 0 0), .int x1, .int x2]) ++ List.replicate (3 - (lg_sl ([.ref (ad 12 0 0), .int x1, .int x2])).length) Slot.unset).toArray = ls at hl ⊢
  have hl : lv_has ls 3 [(0, .ref (ad 12 0 0)), (1, .int x1), (2, .int x2)] := hl
  generalize hargs : ([.ref (ad 12 0 0), .int x1, .int x2] : List Value).toArray = args at S hts ⊢
  clear hargs
  have hK0 : ∀ (H : Heap) (locs : List Loc) (ls : Array Slot), zG D aC A nl ad σ s H → va_S A s.heap H locs → lv_has ls 3 [(0, .ref (ad 12 0 0)), (1, .int x1), (2, .int x2)] → f_X12_at σ x1 x2 = some r → zWk p l e ({ frames := 0, cells := 0, slots := 0, locals := 0 } : Room) s m args below meth c A (some (.int r)) (fun t => zG D aC A nl ad σ t t.heap ∧ True) H locs (F0 m 0 ls []) := by
    intro H locs ls hG hS hl hf
    unfold f_X12_at at hf
    refine lv_aload_n hx hb dX12_at_0 rfl (lv_at hl 0 rfl) ?_
    refine z_get (c0 := 12) (i0 := 0) (k0 := 3) (T := TX12) (v := .ref (ad 12 0 4)) S hG (hZ.2.1 (12, 0) (by decide)) rfl inlX12 (by decide) rfl zw_225 rfl dX12_at_1 ?_
    refine lv_sipush (v := 160) hx hb dX12_at_4 (by decide) ?_
    refine lv_iload_n hx hb dX12_at_7 rfl (lv_at hl 1 rfl) ?_
    refine lv_imul hx hb dX12_at_8 ?_
    refine lv_iload_n hx hb dX12_at_9 rfl (lv_at hl 2 rfl) ?_
    refine lv_iadd hx hb dX12_at_10 ?_
    obtain ⟨i1, hi1, hf⟩ := zbi hf
    refine z_iald (c0 := 12) (i0 := 0) (k0 := 3) S hG (hZ.2.1 (12, 0) (by decide)) (by decide) rfl hi1 dX12_at_11 ?_
    have hq := (Option.some.inj hf)
    subst hq
    exact z_iret S hG hS hlocks trivial hr dX12_at_12
  exact hK0 _ _ ls hG hS hl hf
set_option maxRecDepth 100000 in
set_option maxHeartbeats 4000000 in
theorem c_X12_manyOf (l : Launch) (D : va_G) (aC : Nat → ClassId) (zs : Nat × Nat) (A : Nat → Prop) (nl : zNL) (ad : Nat → Nat → Nat → Nat) (σ : zM) (x1 : Int32) (x2 : Int32) (r : Int32)  (hf : f_X12_manyOf σ x1 x2 = some r) : Met l yX12_manyOf (Cond.code yX12_manyOf cX12_manyOf 5 (some .int) :: wsL_law) ({ frames := 1, cells := 0, slots := 0, locals := 22 } : Room) (zP D aC zs zfM A nl ad σ [.ref (ad 12 0 0), .int x1, .int x2]) (zQ (some (.int r)) (fun t => zG D aC A nl ad σ t t.heap ∧ True) A) 0 0 A := by
  refine Met.ofW (cc := cX12_manyOf) (maxL := 5) (ret := (some .int)) (by decide) rfl ?_
  intro p e s m args below meth c s₁ B hml hv
  obtain ⟨rfl, hG, hZ⟩ := hv
  have hx := B.exec
  have hb := B.bytes
  have hr := B.returns
  have hts : ∀ w ∈ wsL_law, w.before ([.ref (ad 12 0 0), .int x1, .int x2] : List Value).toArray s = true := fun w h => (atoms_spec B.pre) w (List.mem_cons_of_mem _ h)
  have hown : s.vm.findClass RX12 = some m.cls := findClass_of_methodNamed B.named
  have hlocks := B.notSynchronized
  have S : zS p m c cX12_manyOf 5 s ([.ref (ad 12 0 0), .int x1, .int x2] : List Value).toArray RX12 := ⟨hx, hb, hml, hown, hts⟩
  have hS : va_S A s.heap s.heap [] := va_S.rf
  have hl := lv_entry ([.ref (ad 12 0 0), .int x1, .int x2]) (n := 5) (Nat.le_of_ble_eq_true rfl)
  rw [lg_entry_eq]
  generalize (lg_sl ([.ref (ad 12 0 0), .int x1, .int x2]) ++ List.replicate (5 - (lg_sl ([.ref (ad 12 0 0), .int x1, .int x2])).length) Slot.unset).toArray = ls at hl ⊢
  have hl : lv_has ls 5 [(0, .ref (ad 12 0 0)), (1, .int x1), (2, .int x2)] := hl
  generalize hargs : ([.ref (ad 12 0 0), .int x1, .int x2] : List Value).toArray = args at S hts ⊢
  clear hargs
  have hK0 : ∀ (H : Heap) (locs : List Loc) (ls : Array Slot), zG D aC A nl ad σ s H → va_S A s.heap H locs → lv_has ls 5 [(0, .ref (ad 12 0 0)), (1, .int x1), (2, .int x2)] → f_X12_manyOf σ x1 x2 = some r → zWk p l e ({ frames := 1, cells := 0, slots := 0, locals := 22 } : Room) s m args below meth c A (some (.int r)) (fun t => zG D aC A nl ad σ t t.heap ∧ True) H locs (F0 m 0 ls []) := by
    intro H locs ls hG hS hl hf
    unfold f_X12_manyOf at hf
    refine lv_iconst (v := 0) hx hb dX12_manyOf_0 (by decide) ?_
    refine lv_istore_n (lv' := [(3, .int 0), (0, .ref (ad 12 0 0)), (1, .int x1), (2, .int x2)]) hx hb dX12_manyOf_1 rfl hl (by decide) rfl (fun ls hl => ?_)
    refine lv_iconst (v := 0) hx hb dX12_manyOf_2 (by decide) ?_
    refine lv_istore (lv' := [(4, .int 0), (3, .int 0), (0, .ref (ad 12 0 0)), (1, .int x1), (2, .int x2)]) hx hb dX12_manyOf_3 hl (by decide) rfl (fun ls hl => ?_)
    obtain ⟨t5, hw5, hfo5⟩ := zbi hf
    have KL5 : ∀ (n : Nat) (y3l5 : Int32) (y4l5 : Int32) (H : Heap) (locs : List Loc) (ls : Array Slot), zG D aC A nl ad σ s H → va_S A s.heap H locs → lv_has ls 5 [(0, .ref (ad 12 0 0)), (1, .int x1), (2, .int x2), (3, .int y3l5), (4, .int y4l5)] → zwh (fun (q : (Int32 × Int32)) => f_X12_manyOf_L5 σ x1 x2 q.1 q.2) n (y3l5, y4l5) = some t5 → zWk p l e ({ frames := 1, cells := 0, slots := 0, locals := 22 } : Room) s m args below meth c A (some (.int r)) (fun t => zG D aC A nl ad σ t t.heap ∧ True) H locs (F0 m 5 ls []) := by
      intro n
      induction n with
      | zero =>
        intro y3l5 y4l5 H locs ls hG hS hl hw
        exact (zwh_0 hw).elim
      | succ n ih5 =>
        intro y3l5 y4l5 H locs ls hG hS hl hw
        obtain ⟨rr5, hf, hk5⟩ := zwh_u hw
        have hf : f_X12_manyOf_L5 σ x1 x2 y3l5 y4l5 = some rr5 := hf
        unfold f_X12_manyOf_L5 at hf
        refine lv_iload hx hb dX12_manyOf_5 (lv_at hl 4 rfl) ?_
        refine lv_sipush (v := 160) hx hb dX12_manyOf_7 (by decide) ?_
        refine lv_icmp_ge (tgt := 41) hx hb dX12_manyOf_10 (by decide) (fun c9 => ?_) (fun c9 => ?_)
        · have hf := zif_p c9 hf
          cases hf
          have hk5 : (y3l5 : Int32) = t5 := hk5
          have hf := hfo5
          rw [← hk5] at hf
          have hf : (some y3l5) = some r := hf
          refine lv_iload_n hx hb dX12_manyOf_41 rfl (lv_at hl 3 rfl) ?_
          have hq := (Option.some.inj hf)
          subst hq
          exact z_iret S hG hS hlocks trivial hr dX12_manyOf_42
        · have hf := zif_n c9 hf
          refine lv_iload_n hx hb dX12_manyOf_13 rfl (lv_at hl 3 rfl) ?_
          refine lv_aload_n hx hb dX12_manyOf_14 rfl (lv_at hl 0 rfl) ?_
          refine lv_iload_n hx hb dX12_manyOf_15 rfl (lv_at hl 1 rfl) ?_
          refine lv_iload hx hb dX12_manyOf_16 (lv_at hl 4 rfl) ?_
          obtain ⟨r10, er10, hf⟩ := zbi hf
          refine z_callV (n := 2) (rest := [.int y3l5]) (st1 := [.int r10, .int y3l5]) (c0 := 12) (i0 := 0) (hZ.2.1 (12, 0) (by decide)) (by rfl) S hG hS hZ (fun _ _ h => h) (c_X12_at l D aC zs A nl ad σ x1 y4l5 r10 er10) zw_899 zw_900 zw_901 zw_5 zw_902 (by decide +kernel) ⟨rfl, rfl⟩ ⟨(Nat.le_of_ble_eq_true rfl), (Nat.le_of_ble_eq_true rfl)⟩ hl.1 rfl (by rfl) (by rfl) (Nat.le_of_ble_eq_true rfl) dX12_manyOf_18 ⟨Nat.zero_le _, Nat.zero_le _⟩ (fun H locs hz11 hG hS => ?_)
          refine lv_iload_n hx hb dX12_manyOf_21 rfl (lv_at hl 2 rfl) ?_
          have Kv14 : ∀ (v14 : Int32) (ls : Array Slot), lv_has ls 5 [(0, .ref (ad 12 0 0)), (1, .int x1), (2, .int x2), (3, .int y3l5), (4, .int y4l5)] → (some (.inl ((y3l5 + (f_X12_one v14)), (y4l5 + 1)))) = some rr5 → zWk p l e ({ frames := 1, cells := 0, slots := 0, locals := 22 } : Room) s m args below meth c A (some (.int r)) (fun t => zG D aC A nl ad σ t t.heap ∧ True) H locs (F0 m 30 ls [.int v14, .int y3l5]) := by
            intro v14 ls hl hf
            refine z_callS (n := 1) (rest := [.int y3l5]) (st1 := [.int (f_X12_one v14), .int y3l5]) S hG hS hZ (fun _ _ h => h) (c_X12_one l D aC zs A nl ad σ v14 (f_X12_one v14) rfl) zw_903 zw_904 zw_5 zw_905 (by decide +kernel) ⟨rfl, rfl⟩ ⟨(Nat.le_of_ble_eq_true rfl), (Nat.le_of_ble_eq_true rfl)⟩ hl.1 rfl (by rfl) (by rfl) (Nat.le_of_ble_eq_true rfl) dX12_manyOf_30 ⟨Nat.zero_le _, Nat.zero_le _⟩ (fun H locs hz16 hG hS => ?_)
            refine lv_iadd hx hb dX12_manyOf_33 ?_
            refine lv_istore_n (lv' := [(3, .int (y3l5 + (f_X12_one v14))), (0, .ref (ad 12 0 0)), (1, .int x1), (2, .int x2), (4, .int y4l5)]) hx hb dX12_manyOf_34 rfl hl (by decide) rfl (fun ls hl => ?_)
            refine lv_iinc (v := (y4l5 + 1)) (lv' := [(4, .int (y4l5 + 1)), (3, .int (y3l5 + (f_X12_one v14))), (0, .ref (ad 12 0 0)), (1, .int x1), (2, .int x2)]) hx hb dX12_manyOf_35 hl (k := 4) rfl rfl (by decide) rfl (fun ls hl => ?_)
            refine lv_goto (tgt := 5) hx hb dX12_manyOf_38 (by decide) ?_
            cases hf
            exact ih5 (y3l5 + (f_X12_one v14)) (y4l5 + 1) H locs ls hG hS (lv_sub hl [2, 3, 4, 1, 0] rfl) hk5
          refine lv_icmp_ne (tgt := 29) hx hb dX12_manyOf_22 (by decide) (fun c13 => ?_) (fun c13 => ?_)
          · rw [if_neg c13] at hf
            refine lv_iconst (v := 0) hx hb dX12_manyOf_29 (by decide) ?_
            exact Kv14 _ ls hl hf
          · rw [if_pos c13] at hf
            refine lv_iconst (v := 1) hx hb dX12_manyOf_25 (by decide) ?_
            refine lv_goto (tgt := 30) hx hb dX12_manyOf_26 (by decide) ?_
            exact Kv14 _ ls hl hf
    exact KL5 zFu 0 0 H locs ls hG hS (lv_sub hl [2, 3, 4, 1, 0] rfl) hw5
  exact hK0 _ _ ls hG hS hl hf
set_option maxRecDepth 100000 in
set_option maxHeartbeats 4000000 in
theorem c_X12_lightOf (l : Launch) (D : va_G) (aC : Nat → ClassId) (zs : Nat × Nat) (A : Nat → Prop) (nl : zNL) (ad : Nat → Nat → Nat → Nat) (σ : zM) (x1 : Int32) (x2 : Int32) (r : Int32)  (hf : f_X12_lightOf σ x1 x2 = some r) : Met l yX12_lightOf (Cond.code yX12_lightOf cX12_lightOf 6 (some .int) :: wsL_law) ({ frames := 2, cells := 0, slots := 0, locals := 45 } : Room) (zP D aC zs zfM A nl ad σ [.ref (ad 12 0 0), .int x1, .int x2]) (zQ (some (.int r)) (fun t => zG D aC A nl ad σ t t.heap ∧ True) A) 0 0 A := by
  refine Met.ofW (cc := cX12_lightOf) (maxL := 6) (ret := (some .int)) (by decide) rfl ?_
  intro p e s m args below meth c s₁ B hml hv
  obtain ⟨rfl, hG, hZ⟩ := hv
  have hx := B.exec
  have hb := B.bytes
  have hr := B.returns
  have hts : ∀ w ∈ wsL_law, w.before ([.ref (ad 12 0 0), .int x1, .int x2] : List Value).toArray s = true := fun w h => (atoms_spec B.pre) w (List.mem_cons_of_mem _ h)
  have hown : s.vm.findClass RX12 = some m.cls := findClass_of_methodNamed B.named
  have hlocks := B.notSynchronized
  have S : zS p m c cX12_lightOf 6 s ([.ref (ad 12 0 0), .int x1, .int x2] : List Value).toArray RX12 := ⟨hx, hb, hml, hown, hts⟩
  have hS : va_S A s.heap s.heap [] := va_S.rf
  have hl := lv_entry ([.ref (ad 12 0 0), .int x1, .int x2]) (n := 6) (Nat.le_of_ble_eq_true rfl)
  rw [lg_entry_eq]
  generalize (lg_sl ([.ref (ad 12 0 0), .int x1, .int x2]) ++ List.replicate (6 - (lg_sl ([.ref (ad 12 0 0), .int x1, .int x2])).length) Slot.unset).toArray = ls at hl ⊢
  have hl : lv_has ls 6 [(0, .ref (ad 12 0 0)), (1, .int x1), (2, .int x2)] := hl
  generalize hargs : ([.ref (ad 12 0 0), .int x1, .int x2] : List Value).toArray = args at S hts ⊢
  clear hargs
  have hK0 : ∀ (H : Heap) (locs : List Loc) (ls : Array Slot), zG D aC A nl ad σ s H → va_S A s.heap H locs → lv_has ls 6 [(0, .ref (ad 12 0 0)), (1, .int x1), (2, .int x2)] → f_X12_lightOf σ x1 x2 = some r → zWk p l e ({ frames := 2, cells := 0, slots := 0, locals := 45 } : Room) s m args below meth c A (some (.int r)) (fun t => zG D aC A nl ad σ t t.heap ∧ True) H locs (F0 m 0 ls []) := by
    intro H locs ls hG hS hl hf
    unfold f_X12_lightOf at hf
    refine lv_iconst (v := 0) hx hb dX12_lightOf_0 (by decide) ?_
    refine lv_istore_n (lv' := [(3, .int 0), (0, .ref (ad 12 0 0)), (1, .int x1), (2, .int x2)]) hx hb dX12_lightOf_1 rfl hl (by decide) rfl (fun ls hl => ?_)
    refine lv_iconst (v := 0) hx hb dX12_lightOf_2 (by decide) ?_
    refine lv_istore (lv' := [(4, .int 0), (3, .int 0), (0, .ref (ad 12 0 0)), (1, .int x1), (2, .int x2)]) hx hb dX12_lightOf_3 hl (by decide) rfl (fun ls hl => ?_)
    obtain ⟨t5, hw5, hfo5⟩ := zbi hf
    have KL5 : ∀ (n : Nat) (y3l5 : Int32) (y4l5 : Int32) (H : Heap) (locs : List Loc) (ls : Array Slot), zG D aC A nl ad σ s H → va_S A s.heap H locs → lv_has ls 6 [(0, .ref (ad 12 0 0)), (1, .int x1), (2, .int x2), (3, .int y3l5), (4, .int y4l5)] → zwh (fun (q : (Int32 × Int32)) => f_X12_lightOf_L5 σ x1 x2 q.1 q.2) n (y3l5, y4l5) = some t5 → zWk p l e ({ frames := 2, cells := 0, slots := 0, locals := 45 } : Room) s m args below meth c A (some (.int r)) (fun t => zG D aC A nl ad σ t t.heap ∧ True) H locs (F0 m 5 ls []) := by
      intro n
      induction n with
      | zero =>
        intro y3l5 y4l5 H locs ls hG hS hl hw
        exact (zwh_0 hw).elim
      | succ n ih5 =>
        intro y3l5 y4l5 H locs ls hG hS hl hw
        obtain ⟨rr5, hf, hk5⟩ := zwh_u hw
        have hf : f_X12_lightOf_L5 σ x1 x2 y3l5 y4l5 = some rr5 := hf
        unfold f_X12_lightOf_L5 at hf
        have KJ80_5 : ∀ (y3b80 : Int32) (y4b80 : Int32)   (H : Heap) (locs : List Loc) (ls : Array Slot), zG D aC A nl ad σ s H → va_S A s.heap H locs → lv_has ls 6 [(0, .ref (ad 12 0 0)), (1, .int x1), (2, .int x2), (3, .int y3b80), (4, .int y4b80)] → (f_X12_lightOf_B80_5 σ x1 x2 y3b80 y4b80) = some rr5 → zWk p l e ({ frames := 2, cells := 0, slots := 0, locals := 45 } : Room) s m args below meth c A (some (.int r)) (fun t => zG D aC A nl ad σ t t.heap ∧ True) H locs (F0 m 80 ls []) := by
          intro y3b80 y4b80   H locs ls hG hS hl hf
          unfold f_X12_lightOf_B80_5 at hf
          refine lv_iinc (v := (y4b80 + 1)) (lv' := [(4, .int (y4b80 + 1)), (0, .ref (ad 12 0 0)), (1, .int x1), (2, .int x2), (3, .int y3b80)]) hx hb dX12_lightOf_80 hl (k := 4) rfl rfl (by decide) rfl (fun ls hl => ?_)
          refine lv_goto (tgt := 5) hx hb dX12_lightOf_83 (by decide) ?_
          cases hf
          exact ih5 y3b80 (y4b80 + 1) H locs ls hG hS (lv_sub hl [1, 2, 3, 4, 0] rfl) hk5
        refine lv_iload hx hb dX12_lightOf_5 (lv_at hl 4 rfl) ?_
        refine lv_sipush (v := 160) hx hb dX12_lightOf_7 (by decide) ?_
        refine lv_icmp_ge (tgt := 86) hx hb dX12_lightOf_10 (by decide) (fun c21 => ?_) (fun c21 => ?_)
        · have hf := zif_p c21 hf
          cases hf
          have hk5 : (y3l5 : Int32) = t5 := hk5
          have hf := hfo5
          rw [← hk5] at hf
          have hf : (some y3l5) = some r := hf
          refine lv_iload_n hx hb dX12_lightOf_86 rfl (lv_at hl 3 rfl) ?_
          have hq := (Option.some.inj hf)
          subst hq
          exact z_iret S hG hS hlocks trivial hr dX12_lightOf_87
        · have hf := zif_n c21 hf
          refine lv_aload_n hx hb dX12_lightOf_13 rfl (lv_at hl 0 rfl) ?_
          refine lv_iload_n hx hb dX12_lightOf_14 rfl (lv_at hl 1 rfl) ?_
          refine lv_iload hx hb dX12_lightOf_15 (lv_at hl 4 rfl) ?_
          obtain ⟨r22, er22, hf⟩ := zbi hf
          refine z_callV (n := 2) (rest := []) (st1 := [.int r22]) (c0 := 12) (i0 := 0) (hZ.2.1 (12, 0) (by decide)) (by rfl) S hG hS hZ (fun _ _ h => h) (c_X12_at l D aC zs A nl ad σ x1 y4l5 r22 er22) zw_899 zw_900 zw_901 zw_5 zw_902 (by decide +kernel) ⟨rfl, rfl⟩ ⟨(Nat.le_of_ble_eq_true rfl), (Nat.le_of_ble_eq_true rfl)⟩ hl.1 rfl (by rfl) (by rfl) (Nat.le_of_ble_eq_true rfl) dX12_lightOf_17 ⟨Nat.zero_le _, Nat.zero_le _⟩ (fun H locs hz23 hG hS => ?_)
          refine lv_iload_n hx hb dX12_lightOf_20 rfl (lv_at hl 2 rfl) ?_
          refine lv_icmp_eq (tgt := 27) hx hb dX12_lightOf_21 (by decide) (fun c24 => ?_) (fun c24 => ?_)
          · have hf := zif_p c24 hf
            refine lv_iconst (v := 0) hx hb dX12_lightOf_27 (by decide) ?_
            refine lv_istore (lv' := [(5, .int 0), (0, .ref (ad 12 0 0)), (1, .int x1), (2, .int x2), (3, .int y3l5), (4, .int y4l5)]) hx hb dX12_lightOf_28 hl (by decide) rfl (fun ls hl => ?_)
            obtain ⟨t30, hw30, hfo30⟩ := zbi hf
            have KL30 : ∀ (n : Nat) (y3l30 : Int32) (y5l30 : Int32) (H : Heap) (locs : List Loc) (ls : Array Slot), zG D aC A nl ad σ s H → va_S A s.heap H locs → lv_has ls 6 [(0, .ref (ad 12 0 0)), (1, .int x1), (2, .int x2), (4, .int y4l5), (3, .int y3l30), (5, .int y5l30)] → zwh (fun (q : (Int32 × Int32)) => f_X12_lightOf_L30 σ x1 x2 y4l5 q.1 q.2) n (y3l30, y5l30) = some t30 → zWk p l e ({ frames := 2, cells := 0, slots := 0, locals := 45 } : Room) s m args below meth c A (some (.int r)) (fun t => zG D aC A nl ad σ t t.heap ∧ True) H locs (F0 m 30 ls []) := by
              intro n
              induction n with
              | zero =>
                intro y3l30 y5l30 H locs ls hG hS hl hw
                exact (zwh_0 hw).elim
              | succ n ih30 =>
                intro y3l30 y5l30 H locs ls hG hS hl hw
                obtain ⟨rr30, hf, hk30⟩ := zwh_u hw
                have hf : f_X12_lightOf_L30 σ x1 x2 y4l5 y3l30 y5l30 = some rr30 := hf
                unfold f_X12_lightOf_L30 at hf
                have KJ74_30 : ∀ (y3b74 : Int32) (y5b74 : Int32)   (H : Heap) (locs : List Loc) (ls : Array Slot), zG D aC A nl ad σ s H → va_S A s.heap H locs → lv_has ls 6 [(0, .ref (ad 12 0 0)), (1, .int x1), (2, .int x2), (3, .int y3b74), (4, .int y4l5), (5, .int y5b74)] → (f_X12_lightOf_B74_30 σ x1 x2 y3b74 y4l5 y5b74) = some rr30 → zWk p l e ({ frames := 2, cells := 0, slots := 0, locals := 45 } : Room) s m args below meth c A (some (.int r)) (fun t => zG D aC A nl ad σ t t.heap ∧ True) H locs (F0 m 74 ls []) := by
                  intro y3b74 y5b74   H locs ls hG hS hl hf
                  unfold f_X12_lightOf_B74_30 at hf
                  refine lv_iinc (v := (y5b74 + 1)) (lv' := [(5, .int (y5b74 + 1)), (0, .ref (ad 12 0 0)), (1, .int x1), (2, .int x2), (3, .int y3b74), (4, .int y4l5)]) hx hb dX12_lightOf_74 hl (k := 5) rfl rfl (by decide) rfl (fun ls hl => ?_)
                  refine lv_goto (tgt := 30) hx hb dX12_lightOf_77 (by decide) ?_
                  cases hf
                  exact ih30 y3b74 (y5b74 + 1) H locs ls hG hS (lv_sub hl [1, 2, 3, 5, 4, 0] rfl) hk30
                have KJ62_30 : ∀ (y3b62 : Int32) (y5b62 : Int32)   (H : Heap) (locs : List Loc) (ls : Array Slot), zG D aC A nl ad σ s H → va_S A s.heap H locs → lv_has ls 6 [(0, .ref (ad 12 0 0)), (1, .int x1), (2, .int x2), (3, .int y3b62), (4, .int y4l5), (5, .int y5b62)] → (f_X12_lightOf_B62_30 σ x1 x2 y3b62 y4l5 y5b62) = some rr30 → zWk p l e ({ frames := 2, cells := 0, slots := 0, locals := 45 } : Room) s m args below meth c A (some (.int r)) (fun t => zG D aC A nl ad σ t t.heap ∧ True) H locs (F0 m 62 ls []) := by
                  intro y3b62 y5b62   H locs ls hG hS hl hf
                  unfold f_X12_lightOf_B62_30 at hf
                  refine lv_iload_n hx hb dX12_lightOf_62 rfl (lv_at hl 3 rfl) ?_
                  refine lv_aload_n hx hb dX12_lightOf_63 rfl (lv_at hl 0 rfl) ?_
                  refine z_get (c0 := 12) (i0 := 0) (k0 := 6) (T := TX12) (v := .ref (ad 12 0 7)) S hG (hZ.2.1 (12, 0) (by decide)) rfl inlX12 (by decide) rfl zw_228 rfl dX12_lightOf_64 ?_
                  refine lv_iload hx hb dX12_lightOf_67 (lv_at hl 5 rfl) ?_
                  obtain ⟨i36, hi36, hf⟩ := zbi hf
                  refine z_iald (c0 := 12) (i0 := 0) (k0 := 6) S hG (hZ.2.1 (12, 0) (by decide)) (by decide) rfl hi36 dX12_lightOf_69 ?_
                  refine z_mmax (v := (zmax y3b62 (zA σ 12 0 6 i36))) S hl zw_735 zw_90 zw_91 zw_92 (Nat.le_of_ble_eq_true rfl) (Nat.le_of_ble_eq_true rfl) (Nat.le_of_ble_eq_true rfl) (Nat.zero_le _) (Nat.zero_le _) rfl dX12_lightOf_70 ?_
                  refine lv_istore_n (lv' := [(3, .int (zmax y3b62 (zA σ 12 0 6 i36))), (0, .ref (ad 12 0 0)), (1, .int x1), (2, .int x2), (4, .int y4l5), (5, .int y5b62)]) hx hb dX12_lightOf_73 rfl hl (by decide) rfl (fun ls hl => ?_)
                  exact KJ74_30 (zmax y3b62 (zA σ 12 0 6 i36)) y5b62 H locs ls hG hS (lv_sub hl [1, 2, 3, 0, 4, 5] rfl) hf
                refine lv_iload hx hb dX12_lightOf_30 (lv_at hl 5 rfl) ?_
                refine lv_iconst (v := 4) hx hb dX12_lightOf_32 (by decide) ?_
                refine lv_icmp_ge (tgt := 80) hx hb dX12_lightOf_33 (by decide) (fun c33 => ?_) (fun c33 => ?_)
                · have hf := zif_p c33 hf
                  cases hf
                  have hk30 : (y3l30 : Int32) = t30 := hk30
                  have hf := hfo30
                  rw [← hk30] at hf
                  have hf : (f_X12_lightOf_B80_5 σ x1 x2 y3l30 y4l5) = some rr5 := hf
                  exact KJ80_5 y3l30 y4l5 H locs ls hG hS (lv_sub hl [0, 1, 2, 4, 3] rfl) hf
                · have hf := zif_n c33 hf
                  refine lv_iload hx hb dX12_lightOf_36 (lv_at hl 3 rfl) ?_
                  refine lv_iload hx hb dX12_lightOf_38 (lv_at hl 5 rfl) ?_
                  refine z_callS (n := 2) (rest := []) (st1 := [.int (f_X12_beside y4l5 y5l30)]) S hG hS hZ (fun _ _ h => h) (c_X12_beside l D aC zs A nl ad σ y4l5 y5l30 (f_X12_beside y4l5 y5l30) rfl) zw_910 zw_911 zw_5 zw_912 (by decide +kernel) ⟨rfl, rfl⟩ ⟨(Nat.le_of_ble_eq_true rfl), (Nat.le_of_ble_eq_true rfl)⟩ hl.1 rfl (by rfl) (by rfl) (Nat.le_of_ble_eq_true rfl) dX12_lightOf_40 ⟨Nat.zero_le _, Nat.zero_le _⟩ (fun H locs hz34 hG hS => ?_)
                  refine lv_iconst (v := (-1)) hx hb dX12_lightOf_43 (by decide) ?_
                  refine lv_icmp_eq (tgt := 62) hx hb dX12_lightOf_44 (by decide) (fun c35 => ?_) (fun c35 => ?_)
                  · have hf := zif_p c35 hf
                    exact KJ62_30 y3l30 y5l30 H locs ls hG hS (lv_sub hl [0, 1, 2, 4, 3, 5] rfl) hf
                  · have hf := zif_n c35 hf
                    refine lv_aload_n hx hb dX12_lightOf_47 rfl (lv_at hl 0 rfl) ?_
                    refine lv_iload_n hx hb dX12_lightOf_48 rfl (lv_at hl 1 rfl) ?_
                    refine lv_iload hx hb dX12_lightOf_49 (lv_at hl 3 rfl) ?_
                    refine lv_iload hx hb dX12_lightOf_51 (lv_at hl 5 rfl) ?_
                    refine z_callS (n := 2) (rest := [.int x1, .ref (ad 12 0 0)]) (st1 := [.int (f_X12_beside y4l5 y5l30), .int x1, .ref (ad 12 0 0)]) S hG hS hZ (fun _ _ h => h) (c_X12_beside l D aC zs A nl ad σ y4l5 y5l30 (f_X12_beside y4l5 y5l30) rfl) zw_910 zw_911 zw_5 zw_912 (by decide +kernel) ⟨rfl, rfl⟩ ⟨(Nat.le_of_ble_eq_true rfl), (Nat.le_of_ble_eq_true rfl)⟩ hl.1 rfl (by rfl) (by rfl) (Nat.le_of_ble_eq_true rfl) dX12_lightOf_53 ⟨Nat.zero_le _, Nat.zero_le _⟩ (fun H locs hz37 hG hS => ?_)
                    obtain ⟨r38, er38, hf⟩ := zbi hf
                    refine z_callV (n := 2) (rest := []) (st1 := [.int r38]) (c0 := 12) (i0 := 0) (hZ.2.1 (12, 0) (by decide)) (by rfl) S hG hS hZ (fun _ _ h => h) (c_X12_at l D aC zs A nl ad σ x1 (f_X12_beside y4l5 y5l30) r38 er38) zw_899 zw_900 zw_901 zw_5 zw_902 (by decide +kernel) ⟨rfl, rfl⟩ ⟨(Nat.le_of_ble_eq_true rfl), (Nat.le_of_ble_eq_true rfl)⟩ hl.1 rfl (by rfl) (by rfl) (Nat.le_of_ble_eq_true rfl) dX12_lightOf_56 ⟨Nat.zero_le _, Nat.zero_le _⟩ (fun H locs hz39 hG hS => ?_)
                    refine lv_if_ne (tgt := 74) hx hb dX12_lightOf_59 (by decide) (fun c40 => ?_) (fun c40 => ?_)
                    · have hf := zif_n c40 hf
                      exact KJ74_30 y3l30 y5l30 H locs ls hG hS (lv_sub hl [0, 1, 2, 4, 3, 5] rfl) hf
                    · have hf := zif_p c40 hf
                      exact KJ62_30 y3l30 y5l30 H locs ls hG hS (lv_sub hl [0, 1, 2, 4, 3, 5] rfl) hf
            exact KL30 zFu y3l5 0 H locs ls hG hS (lv_sub hl [1, 2, 3, 5, 4, 0] rfl) hw30
          · have hf := zif_n c24 hf
            refine lv_goto (tgt := 80) hx hb dX12_lightOf_24 (by decide) ?_
            exact KJ80_5 y3l5 y4l5 H locs ls hG hS (lv_sub hl [0, 1, 2, 3, 4] rfl) hf
    exact KL5 zFu 0 0 H locs ls hG hS (lv_sub hl [2, 3, 4, 1, 0] rfl) hw5
  exact hK0 _ _ ls hG hS hl hf
set_option maxRecDepth 100000 in
set_option maxHeartbeats 4000000 in
theorem c_X12_isRoom (l : Launch) (D : va_G) (aC : Nat → ClassId) (zs : Nat × Nat) (A : Nat → Prop) (nl : zNL) (ad : Nat → Nat → Nat → Nat) (σ : zM) (x0 : Int32) (r : Int32)  (hf : f_X12_isRoom x0 = r) : Met l yX12_isRoom (Cond.code yX12_isRoom cX12_isRoom 1 (some .boolean) :: wsL_law) ({ frames := 1, cells := 0, slots := 0, locals := 22 } : Room) (zP D aC zs zfM A nl ad σ [.int x0]) (zQ (some (.int r)) (fun t => zG D aC A nl ad σ t t.heap ∧ (r = 0 ∨ r = 1)) A) 0 0 A := by
  refine Met.ofW (cc := cX12_isRoom) (maxL := 1) (ret := (some .boolean)) (by decide) rfl ?_
  intro p e s m args below meth c s₁ B hml hv
  obtain ⟨rfl, hG, hZ⟩ := hv
  have hx := B.exec
  have hb := B.bytes
  have hr := B.returns
  have hts : ∀ w ∈ wsL_law, w.before ([.int x0] : List Value).toArray s = true := fun w h => (atoms_spec B.pre) w (List.mem_cons_of_mem _ h)
  have hown : s.vm.findClass RX12 = some m.cls := findClass_of_methodNamed B.named
  have hlocks := B.notSynchronized
  have S : zS p m c cX12_isRoom 1 s ([.int x0] : List Value).toArray RX12 := ⟨hx, hb, hml, hown, hts⟩
  have hS : va_S A s.heap s.heap [] := va_S.rf
  have hl := lv_entry ([.int x0]) (n := 1) (Nat.le_of_ble_eq_true rfl)
  rw [lg_entry_eq]
  generalize (lg_sl ([.int x0]) ++ List.replicate (1 - (lg_sl ([.int x0])).length) Slot.unset).toArray = ls at hl ⊢
  have hl : lv_has ls 1 [(0, .int x0)] := hl
  generalize hargs : ([.int x0] : List Value).toArray = args at S hts ⊢
  clear hargs
  have hK0 : ∀ (H : Heap) (locs : List Loc) (ls : Array Slot), zG D aC A nl ad σ s H → va_S A s.heap H locs → lv_has ls 1 [(0, .int x0)] → f_X12_isRoom x0 = r → zWk p l e ({ frames := 1, cells := 0, slots := 0, locals := 22 } : Room) s m args below meth c A (some (.int r)) (fun t => zG D aC A nl ad σ t t.heap ∧ (r = 0 ∨ r = 1)) H locs (F0 m 0 ls []) := by
    intro H locs ls hG hS hl hf
    unfold f_X12_isRoom at hf
    refine lv_iload_n hx hb dX12_isRoom_0 rfl (lv_at hl 0 rfl) ?_
    refine lv_iconst (v := 1) hx hb dX12_isRoom_1 (by decide) ?_
    refine lv_bipush (v := 12) hx hb dX12_isRoom_2 (by decide) ?_
    refine z_callS (n := 3) (rest := []) (st1 := [.int (f_X12_isIn x0 1 12)]) S hG hS hZ (fun _ _ h => h) (c_X12_isIn l D aC zs A nl ad σ x0 1 12 (f_X12_isIn x0 1 12) rfl) zw_514 zw_515 zw_5 zw_516 (by decide +kernel) ⟨rfl, rfl⟩ ⟨(Nat.le_of_ble_eq_true rfl), (Nat.le_of_ble_eq_true rfl)⟩ hl.1 rfl (by rfl) (by rfl) (Nat.le_of_ble_eq_true rfl) dX12_isRoom_4 ⟨Nat.zero_le _, Nat.zero_le _⟩ (fun H locs hz1 hG hS => ?_)
    have hq := hf
    subst hq
    exact z_zret S hG hS hlocks hz1 hr dX12_isRoom_7
  exact hK0 _ _ ls hG hS hl hf
set_option maxRecDepth 100000 in
set_option maxHeartbeats 4000000 in
theorem c_X12_room (l : Launch) (D : va_G) (aC : Nat → ClassId) (zs : Nat × Nat) (A : Nat → Prop) (nl : zNL) (ad : Nat → Nat → Nat → Nat) (σ : zM) (x1 : Int32) (x2 : Int32) (x3 : Int32) (r : Int32)  (hf : f_X12_room σ x1 x2 x3 = some r) : Met l yX12_room (Cond.code yX12_room cX12_room 4 (some .int) :: wsL_law) ({ frames := 3, cells := 0, slots := 0, locals := 70 } : Room) (zP D aC zs zfM A nl ad σ [.ref (ad 12 0 0), .int x1, .int x2, .int x3]) (zQ (some (.int r)) (fun t => zG D aC A nl ad σ t t.heap ∧ True) A) 0 0 A := by
  refine Met.ofW (cc := cX12_room) (maxL := 4) (ret := (some .int)) (by decide) rfl ?_
  intro p e s m args below meth c s₁ B hml hv
  obtain ⟨rfl, hG, hZ⟩ := hv
  have hx := B.exec
  have hb := B.bytes
  have hr := B.returns
  have hts : ∀ w ∈ wsL_law, w.before ([.ref (ad 12 0 0), .int x1, .int x2, .int x3] : List Value).toArray s = true := fun w h => (atoms_spec B.pre) w (List.mem_cons_of_mem _ h)
  have hown : s.vm.findClass RX12 = some m.cls := findClass_of_methodNamed B.named
  have hlocks := B.notSynchronized
  have S : zS p m c cX12_room 4 s ([.ref (ad 12 0 0), .int x1, .int x2, .int x3] : List Value).toArray RX12 := ⟨hx, hb, hml, hown, hts⟩
  have hS : va_S A s.heap s.heap [] := va_S.rf
  have hl := lv_entry ([.ref (ad 12 0 0), .int x1, .int x2, .int x3]) (n := 4) (Nat.le_of_ble_eq_true rfl)
  rw [lg_entry_eq]
  generalize (lg_sl ([.ref (ad 12 0 0), .int x1, .int x2, .int x3]) ++ List.replicate (4 - (lg_sl ([.ref (ad 12 0 0), .int x1, .int x2, .int x3])).length) Slot.unset).toArray = ls at hl ⊢
  have hl : lv_has ls 4 [(0, .ref (ad 12 0 0)), (1, .int x1), (2, .int x2), (3, .int x3)] := hl
  generalize hargs : ([.ref (ad 12 0 0), .int x1, .int x2, .int x3] : List Value).toArray = args at S hts ⊢
  clear hargs
  have hK0 : ∀ (H : Heap) (locs : List Loc) (ls : Array Slot), zG D aC A nl ad σ s H → va_S A s.heap H locs → lv_has ls 4 [(0, .ref (ad 12 0 0)), (1, .int x1), (2, .int x2), (3, .int x3)] → f_X12_room σ x1 x2 x3 = some r → zWk p l e ({ frames := 3, cells := 0, slots := 0, locals := 70 } : Room) s m args below meth c A (some (.int r)) (fun t => zG D aC A nl ad σ t t.heap ∧ True) H locs (F0 m 0 ls []) := by
    intro H locs ls hG hS hl hf
    unfold f_X12_room at hf
    refine lv_aload_n hx hb dX12_room_0 rfl (lv_at hl 0 rfl) ?_
    refine lv_iload_n hx hb dX12_room_1 rfl (lv_at hl 1 rfl) ?_
    refine z_callV (n := 1) (rest := []) (st1 := [.int (f_X12_isScheme σ x1)]) (c0 := 12) (i0 := 0) (hZ.2.1 (12, 0) (by decide)) (by rfl) S hG hS hZ (fun _ _ h => h) (c_X12_isScheme l D aC zs A nl ad σ x1 (f_X12_isScheme σ x1) rfl) zw_837 zw_838 zw_839 zw_5 zw_840 (by decide +kernel) ⟨rfl, rfl⟩ ⟨(Nat.le_of_ble_eq_true rfl), (Nat.le_of_ble_eq_true rfl)⟩ hl.1 rfl (by rfl) (by rfl) (Nat.le_of_ble_eq_true rfl) dX12_room_2 ⟨Nat.zero_le _, Nat.zero_le _⟩ (fun H locs hz1 hG hS => ?_)
    refine lv_if_eq (tgt := 24) hx hb dX12_room_5 (by decide) (fun c2 => ?_) (fun c2 => ?_)
    · have hf := zif_p c2 hf
      refine lv_iconst (v := (-1)) hx hb dX12_room_24 (by decide) ?_
      have hq := (Option.some.inj hf)
      subst hq
      exact z_iret S hG hS hlocks trivial hr dX12_room_25
    · have hf := zif_n c2 hf
      refine lv_iload_n hx hb dX12_room_8 rfl (lv_at hl 2 rfl) ?_
      refine z_callS (n := 1) (rest := []) (st1 := [.int (f_X12_isRoom x2)]) S hG hS hZ (fun _ _ h => h) (c_X12_isRoom l D aC zs A nl ad σ x2 (f_X12_isRoom x2) rfl) zw_892 zw_893 zw_5 zw_894 (by decide +kernel) ⟨rfl, rfl⟩ ⟨(Nat.le_of_ble_eq_true rfl), (Nat.le_of_ble_eq_true rfl)⟩ hl.1 rfl (by rfl) (by rfl) (Nat.le_of_ble_eq_true rfl) dX12_room_9 ⟨Nat.zero_le _, Nat.zero_le _⟩ (fun H locs hz3 hG hS => ?_)
      refine lv_if_eq (tgt := 24) hx hb dX12_room_12 (by decide) (fun c4 => ?_) (fun c4 => ?_)
      · have hf := zif_p c4 hf
        refine lv_iconst (v := (-1)) hx hb dX12_room_24 (by decide) ?_
        have hq := (Option.some.inj hf)
        subst hq
        exact z_iret S hG hS hlocks trivial hr dX12_room_25
      · have hf := zif_n c4 hf
        refine lv_iload_n hx hb dX12_room_15 rfl (lv_at hl 3 rfl) ?_
        refine lv_iconst (v := 0) hx hb dX12_room_16 (by decide) ?_
        refine lv_iconst (v := 1) hx hb dX12_room_17 (by decide) ?_
        refine z_callS (n := 3) (rest := []) (st1 := [.int (f_X12_isIn x3 0 1)]) S hG hS hZ (fun _ _ h => h) (c_X12_isIn l D aC zs A nl ad σ x3 0 1 (f_X12_isIn x3 0 1) rfl) zw_514 zw_515 zw_5 zw_516 (by decide +kernel) ⟨rfl, rfl⟩ ⟨(Nat.le_of_ble_eq_true rfl), (Nat.le_of_ble_eq_true rfl)⟩ hl.1 rfl (by rfl) (by rfl) (Nat.le_of_ble_eq_true rfl) dX12_room_18 ⟨Nat.zero_le _, Nat.zero_le _⟩ (fun H locs hz5 hG hS => ?_)
        refine lv_if_ne (tgt := 26) hx hb dX12_room_21 (by decide) (fun c6 => ?_) (fun c6 => ?_)
        · have hf := zif_n c6 hf
          refine lv_iload_n hx hb dX12_room_26 rfl (lv_at hl 3 rfl) ?_
          refine lv_if_ne (tgt := 39) hx hb dX12_room_27 (by decide) (fun c7 => ?_) (fun c7 => ?_)
          · have hf := zif_n c7 hf
            refine lv_aload_n hx hb dX12_room_39 rfl (lv_at hl 0 rfl) ?_
            refine lv_iload_n hx hb dX12_room_40 rfl (lv_at hl 1 rfl) ?_
            refine lv_iload_n hx hb dX12_room_41 rfl (lv_at hl 2 rfl) ?_
            obtain ⟨r8, er8, hf⟩ := zbi hf
            refine z_callV (n := 2) (rest := []) (st1 := [.int r8]) (c0 := 12) (i0 := 0) (hZ.2.1 (12, 0) (by decide)) (by rfl) S hG hS hZ (fun _ _ h => h) (c_X12_lightOf l D aC zs A nl ad σ x1 x2 r8 er8) zw_906 zw_907 zw_908 zw_5 zw_909 (by decide +kernel) ⟨rfl, rfl⟩ ⟨(Nat.le_of_ble_eq_true rfl), (Nat.le_of_ble_eq_true rfl)⟩ hl.1 rfl (by rfl) (by rfl) (Nat.le_of_ble_eq_true rfl) dX12_room_42 ⟨Nat.zero_le _, Nat.zero_le _⟩ (fun H locs hz9 hG hS => ?_)
            have hq := (Option.some.inj hf)
            subst hq
            exact z_iret S hG hS hlocks trivial hr dX12_room_45
          · have hf := zif_p c7 hf
            refine lv_aload_n hx hb dX12_room_30 rfl (lv_at hl 0 rfl) ?_
            refine lv_iload_n hx hb dX12_room_31 rfl (lv_at hl 1 rfl) ?_
            refine lv_iload_n hx hb dX12_room_32 rfl (lv_at hl 2 rfl) ?_
            obtain ⟨r10, er10, hf⟩ := zbi hf
            refine z_callV (n := 2) (rest := []) (st1 := [.int r10]) (c0 := 12) (i0 := 0) (hZ.2.1 (12, 0) (by decide)) (by rfl) S hG hS hZ (fun _ _ h => h) (c_X12_manyOf l D aC zs A nl ad σ x1 x2 r10 er10) zw_895 zw_896 zw_897 zw_5 zw_898 (by decide +kernel) ⟨rfl, rfl⟩ ⟨(Nat.le_of_ble_eq_true rfl), (Nat.le_of_ble_eq_true rfl)⟩ hl.1 rfl (by rfl) (by rfl) (Nat.le_of_ble_eq_true rfl) dX12_room_33 ⟨Nat.zero_le _, Nat.zero_le _⟩ (fun H locs hz11 hG hS => ?_)
            refine lv_goto (tgt := 45) hx hb dX12_room_36 (by decide) ?_
            have hq := (Option.some.inj hf)
            subst hq
            exact z_iret S hG hS hlocks trivial hr dX12_room_45
        · have hf := zif_p c6 hf
          refine lv_iconst (v := (-1)) hx hb dX12_room_24 (by decide) ?_
          have hq := (Option.some.inj hf)
          subst hq
          exact z_iret S hG hS hlocks trivial hr dX12_room_25
  exact hK0 _ _ ls hG hS hl hf
set_option maxRecDepth 100000 in
set_option maxHeartbeats 4000000 in
theorem c_X12_comes (l : Launch) (D : va_G) (aC : Nat → ClassId) (zs : Nat × Nat) (A : Nat → Prop) (nl : zNL) (ad : Nat → Nat → Nat → Nat) (σ : zM) (x1 : Int32) (x2 : Int32)  (σ' : zM)  (hf : f_X12_comes σ x1 x2 = some σ') : Met l yX12_comes (Cond.code yX12_comes cX12_comes 3 none :: wsL_law) ({ frames := 0, cells := 0, slots := 0, locals := 0 } : Room) (zP D aC zs zfM A nl ad σ [.ref (ad 12 0 0), .int x1, .int x2]) (zQ none (fun t => zG D aC A nl ad σ' t t.heap ∧ True) A) 0 0 A := by
  refine Met.ofW (cc := cX12_comes) (maxL := 3) (ret := none) (by decide) rfl ?_
  intro p e s m args below meth c s₁ B hml hv
  obtain ⟨rfl, hG, hZ⟩ := hv
  have hx := B.exec
  have hb := B.bytes
  have hr := B.returns
  have hts : ∀ w ∈ wsL_law, w.before ([.ref (ad 12 0 0), .int x1, .int x2] : List Value).toArray s = true := fun w h => (atoms_spec B.pre) w (List.mem_cons_of_mem _ h)
  have hown : s.vm.findClass RX12 = some m.cls := findClass_of_methodNamed B.named
  have hlocks := B.notSynchronized
  have S : zS p m c cX12_comes 3 s ([.ref (ad 12 0 0), .int x1, .int x2] : List Value).toArray RX12 := ⟨hx, hb, hml, hown, hts⟩
  have hS : va_S A s.heap s.heap [] := va_S.rf
  have hl := lv_entry ([.ref (ad 12 0 0), .int x1, .int x2]) (n := 3) (Nat.le_of_ble_eq_true rfl)
  rw [lg_entry_eq]
  generalize (lg_sl ([.ref (ad 12 0 0), .int x1, .int x2]) ++ List.replicate (3 - (lg_sl ([.ref (ad 12 0 0), .int x1, .int x2])).length) Slot.unset).toArray = ls at hl ⊢
  have hl : lv_has ls 3 [(0, .ref (ad 12 0 0)), (1, .int x1), (2, .int x2)] := hl
  generalize hargs : ([.ref (ad 12 0 0), .int x1, .int x2] : List Value).toArray = args at S hts ⊢
  clear hargs
  have hK0 : ∀ (H : Heap) (locs : List Loc) (ls : Array Slot), zG D aC A nl ad σ s H → va_S A s.heap H locs → lv_has ls 3 [(0, .ref (ad 12 0 0)), (1, .int x1), (2, .int x2)] → f_X12_comes σ x1 x2 = some σ' → zWk p l e ({ frames := 0, cells := 0, slots := 0, locals := 0 } : Room) s m args below meth c A none (fun t => zG D aC A nl ad σ' t t.heap ∧ True) H locs (F0 m 0 ls []) := by
    intro H locs ls hG hS hl hf
    unfold f_X12_comes at hf
    refine lv_aload_n hx hb dX12_comes_0 rfl (lv_at hl 0 rfl) ?_
    refine z_get (c0 := 12) (i0 := 0) (k0 := 7) (T := TX12) (v := .ref (ad 12 0 8)) S hG (hZ.2.1 (12, 0) (by decide)) rfl inlX12 (by decide) rfl zw_229 rfl dX12_comes_1 ?_
    refine lv_iload_n hx hb dX12_comes_4 rfl (lv_at hl 1 rfl) ?_
    obtain ⟨i1, hi1, hf⟩ := zbi hf
    refine z_iald (c0 := 12) (i0 := 0) (k0 := 7) S hG (hZ.2.1 (12, 0) (by decide)) (by decide) rfl hi1 dX12_comes_5 ?_
    refine lv_iconst (v := (-1)) hx hb dX12_comes_6 (by decide) ?_
    refine lv_icmp_eq (tgt := 11) hx hb dX12_comes_7 (by decide) (fun c2 => ?_) (fun c2 => ?_)
    · have hf := zif_p c2 hf
      refine lv_aload_n hx hb dX12_comes_11 rfl (lv_at hl 0 rfl) ?_
      refine z_get (c0 := 12) (i0 := 0) (k0 := 7) (T := TX12) (v := .ref (ad 12 0 8)) S hG (hZ.2.1 (12, 0) (by decide)) rfl inlX12 (by decide) rfl zw_229 rfl dX12_comes_12 ?_
      refine lv_iload_n hx hb dX12_comes_15 rfl (lv_at hl 1 rfl) ?_
      refine lv_iload_n hx hb dX12_comes_16 rfl (lv_at hl 2 rfl) ?_
      obtain ⟨i3, hi3, hf⟩ := zbi hf
      refine z_iast (c0 := 12) (i0 := 0) (k0 := 7) S hG hS (hZ.2.1 (12, 0) (by decide)) (by decide) rfl hi3 dX12_comes_17 (fun H locs hG hS => ?_)
      obtain ⟨σ4, eσ4, hf⟩ := zlt_s hf
      rw [← eσ4] at hG
      refine lv_aload_n hx hb dX12_comes_18 rfl (lv_at hl 0 rfl) ?_
      refine z_get (c0 := 12) (i0 := 0) (k0 := 8) (T := TX12) (v := .ref (ad 12 0 9)) S hG (hZ.2.1 (12, 0) (by decide)) rfl inlX12 (by decide) rfl zw_230 rfl dX12_comes_19 ?_
      refine lv_aload_n hx hb dX12_comes_22 rfl (lv_at hl 0 rfl) ?_
      refine z_get (c0 := 12) (i0 := 0) (k0 := 9) (T := TX12) (v := .int (zI σ4 12 0 9)) S hG (hZ.2.1 (12, 0) (by decide)) rfl inlX12 (by decide) rfl zw_937 rfl dX12_comes_23 ?_
      refine lv_iload_n hx hb dX12_comes_26 rfl (lv_at hl 1 rfl) ?_
      obtain ⟨i5, hi5, hf⟩ := zbi hf
      refine z_iast (c0 := 12) (i0 := 0) (k0 := 8) S hG hS (hZ.2.1 (12, 0) (by decide)) (by decide) rfl hi5 dX12_comes_27 (fun H locs hG hS => ?_)
      obtain ⟨σ6, eσ6, hf⟩ := zlt_s hf
      rw [← eσ6] at hG
      refine lv_aload_n hx hb dX12_comes_28 rfl (lv_at hl 0 rfl) ?_
      refine lv_dup hx hb dX12_comes_29 rfl ?_
      refine z_get (c0 := 12) (i0 := 0) (k0 := 9) (T := TX12) (v := .int (zI σ6 12 0 9)) S hG (hZ.2.1 (12, 0) (by decide)) rfl inlX12 (by decide) rfl zw_937 rfl dX12_comes_30 ?_
      refine lv_iconst (v := 1) hx hb dX12_comes_33 (by decide) ?_
      refine lv_iadd hx hb dX12_comes_34 ?_
      refine z_putI (c0 := 12) (i0 := 0) (k0 := 9) (T := TX12) S hG hS tyX12 tyX12_ok nmX12 (hZ.2.1 (12, 0) (by decide)) rfl inlX12 (by decide) rfl rfl zw_937 (by decide +kernel) rfl dX12_comes_35 (fun H locs hG hS => ?_)
      obtain ⟨σ7, eσ7, hf⟩ := zlt_s hf
      rw [← eσ7] at hG
      have hq := (Option.some.inj hf)
      subst hq
      exact z_vret S hG hS hlocks trivial hr dX12_comes_38
    · have hf := zif_n c2 hf
      have hq := (Option.some.inj hf)
      subst hq
      exact z_vret S hG hS hlocks trivial hr dX12_comes_10
  exact hK0 _ _ ls hG hS hl hf
