set_option maxRecDepth 100000 in
set_option maxHeartbeats 4000000 in
theorem c_X3_put (l : Launch) (D : va_G) (aC : Nat → ClassId) (zs : Nat × Nat) (A : Nat → Prop) (nl : zNL) (ad : Nat → Nat → Nat → Nat) (σ : zM) (x2 : Int32) (x3 : Int32) (x4 : Int32) (r : Int32) (σ' : zM)  (hf : f_X3_put σ x2 x3 x4 = some (r, σ')) : Met l yX3_put (Cond.code yX3_put cX3_put 12 (some .int) :: wsL_law) ({ frames := 1, cells := 0, slots := 0, locals := 23 } : Room) (zP D aC zs zfX A nl ad σ [.ref (ad 3 0 0), .ref (ad 9 0 0), .int x2, .int x3, .int x4]) (zQ (some (.int r)) (fun t => zG D aC A nl ad σ' t t.heap ∧ True) A) 0 0 A := by
  refine Met.ofW (cc := cX3_put) (maxL := 12) (ret := (some .int)) (by decide) rfl ?_
  intro p e s m args below meth c s₁ B hml hv
  obtain ⟨rfl, hG, hZ⟩ := hv
  have hx := B.exec
  have hb := B.bytes
  have hr := B.returns
  have hts : ∀ w ∈ wsL_law, w.before ([.ref (ad 3 0 0), .ref (ad 9 0 0), .int x2, .int x3, .int x4] : List Value).toArray s = true := fun w h => (atoms_spec B.pre) w (List.mem_cons_of_mem _ h)
  have hown : s.vm.findClass RX3 = some m.cls := findClass_of_methodNamed B.named
  have hlocks := B.notSynchronized
  have S : zS p m c cX3_put 12 s ([.ref (ad 3 0 0), .ref (ad 9 0 0), .int x2, .int x3, .int x4] : List Value).toArray RX3 := ⟨hx, hb, hml, hown, hts⟩
  have hS : va_S A s.heap s.heap [] := va_S.rf
  have hl := lv_entry ([.ref (ad 3 0 0), .ref (ad 9 0 0), .int x2, .int x3, .int x4]) (n := 12) (Nat.le_of_ble_eq_true rfl)
  rw [lg_entry_eq]
  generalize (lg_sl ([.ref (ad 3 0 0), .ref (ad 9 0 0), .int x2, .int x3, .int x4]) ++ List.replicate (12 - (lg_sl ([.ref (ad 3 0 0), .ref (ad 9 0 0), .int x2, .int x3, .int x4])).length) Slot.unset).toArray = ls at hl ⊢
  have hl : lv_has ls 12 [(0, .ref (ad 3 0 0)), (1, .ref (ad 9 0 0)), (2, .int x2), (3, .int x3), (4, .int x4)] := hl
  generalize hargs : ([.ref (ad 3 0 0), .ref (ad 9 0 0), .int x2, .int x3, .int x4] : List Value).toArray = args at S hts ⊢
  clear hargs
  have KJ119 : ∀ (y5b119 : Int32) (y9b119 : Int32)  (σb119 : zM) (H : Heap) (locs : List Loc) (ls : Array Slot), zG D aC A nl ad σb119 s H → va_S A s.heap H locs → lv_has ls 12 [(0, .ref (ad 3 0 0)), (1, .ref (ad 9 0 0)), (2, .int x2), (3, .int x3), (4, .int x4), (5, .int y5b119), (9, .int y9b119)] → (f_X3_put_B119 σb119 x2 x3 x4 y5b119 y9b119) = some (r, σ') → zWk p l e ({ frames := 1, cells := 0, slots := 0, locals := 23 } : Room) s m args below meth c A (some (.int r)) (fun t => zG D aC A nl ad σ' t t.heap ∧ True) H locs (F0 m 119 ls []) := by
    intro y5b119 y9b119  σb119 H locs ls hG hS hl hf
    unfold f_X3_put_B119 at hf
    refine lv_iload hx hb dX3_put_119 (lv_at hl 6 rfl) ?_
    refine lv_if_eq (tgt := 136) hx hb dX3_put_121 (by decide) (fun c2 => ?_) (fun c2 => ?_)
    · have hf := zif_p c2 hf
      refine lv_aload_n hx hb dX3_put_136 rfl (lv_at hl 0 rfl) ?_
      refine lv_iload hx hb dX3_put_137 (lv_at hl 4 rfl) ?_
      refine lv_iload_n hx hb dX3_put_139 rfl (lv_at hl 3 rfl) ?_
      refine lv_iload hx hb dX3_put_140 (lv_at hl 5 rfl) ?_
      obtain ⟨q3, eq3, hf⟩ := zbi hf
      refine z_callV (n := 3) (rest := []) (st1 := [.int q3.1]) (c0 := 3) (i0 := 0) (hZ.2.1 (3, 0) (by decide)) (by rfl) S hG hS hZ (fun _ _ h => h) (c_X3_keep l D aC zs A nl ad σb119 x4 x3 y5b119 q3.1 q3.2 eq3) zw_1164 zw_1165 zw_1166 zw_35 zw_1167 (by decide +kernel) ⟨rfl, rfl⟩ ⟨(Nat.le_of_ble_eq_true rfl), (Nat.le_of_ble_eq_true rfl)⟩ hl.1 rfl (by rfl) (by rfl) (Nat.le_of_ble_eq_true rfl) dX3_put_142 ⟨Nat.zero_le _, Nat.zero_le _⟩ (fun H locs hz4 hG hS => ?_)
      obtain ⟨hq1, hq2⟩ := Prod.mk.inj (Option.some.inj hf)
      subst hq1
      subst hq2
      exact z_iret S hG hS hlocks trivial hr dX3_put_145
    · have hf := zif_n c2 hf
      refine lv_aload_n hx hb dX3_put_124 rfl (lv_at hl 0 rfl) ?_
      refine lv_dup hx hb dX3_put_125 rfl ?_
      refine z_get (c0 := 3) (i0 := 0) (k0 := 5) (T := TX3) (v := .int (zI σb119 3 0 5)) S hG (hZ.2.1 (3, 0) (by decide)) rfl inlX3 (by decide) rfl zw_201 rfl dX3_put_126 ?_
      refine lv_iconst (v := 1) hx hb dX3_put_129 (by decide) ?_
      refine lv_iadd hx hb dX3_put_130 ?_
      refine z_putI (c0 := 3) (i0 := 0) (k0 := 5) (T := TX3) S hG hS tyX3 tyX3_ok nmX3 (hZ.2.1 (3, 0) (by decide)) rfl inlX3 (by decide) rfl rfl zw_201 (by decide +kernel) rfl dX3_put_131 (fun H locs hG hS => ?_)
      obtain ⟨σ5, eσ5, hf⟩ := zlt_s hf
      rw [← eσ5] at hG
      refine lv_iconst (v := (-1)) hx hb dX3_put_134 (by decide) ?_
      obtain ⟨hq1, hq2⟩ := Prod.mk.inj (Option.some.inj hf)
      subst hq1
      subst hq2
      exact z_iret S hG hS hlocks trivial hr dX3_put_135
  have hK0 : ∀ (H : Heap) (locs : List Loc) (ls : Array Slot), zG D aC A nl ad σ s H → va_S A s.heap H locs → lv_has ls 12 [(0, .ref (ad 3 0 0)), (1, .ref (ad 9 0 0)), (2, .int x2), (3, .int x3), (4, .int x4)] → f_X3_put σ x2 x3 x4 = some (r, σ') → zWk p l e ({ frames := 1, cells := 0, slots := 0, locals := 23 } : Room) s m args below meth c A (some (.int r)) (fun t => zG D aC A nl ad σ' t t.heap ∧ True) H locs (F0 m 0 ls []) := by
    intro H locs ls hG hS hl hf
    unfold f_X3_put at hf
    refine lv_iconst (v := 0) hx hb dX3_put_0 (by decide) ?_
    refine lv_istore (lv' := [(5, .int 0), (0, .ref (ad 3 0 0)), (1, .ref (ad 9 0 0)), (2, .int x2), (3, .int x3), (4, .int x4)]) hx hb dX3_put_1 hl (by decide) rfl (fun ls hl => ?_)
    refine lv_iconst (v := 0) hx hb dX3_put_3 (by decide) ?_
    refine lv_istore (lv' := [(6, .int 0), (5, .int 0), (0, .ref (ad 3 0 0)), (1, .ref (ad 9 0 0)), (2, .int x2), (3, .int x3), (4, .int x4)]) hx hb dX3_put_4 hl (by decide) rfl (fun ls hl => ?_)
    refine lv_lconst (v := 0) hx hb dX3_put_6 (by decide) ?_
    refine lv_lstore (lv' := [(7, .long 0), (6, .int 0), (5, .int 0), (0, .ref (ad 3 0 0)), (1, .ref (ad 9 0 0)), (2, .int x2), (3, .int x3), (4, .int x4)]) hx hb dX3_put_7 hl (by decide) rfl (fun ls hl => ?_)
    refine lv_iconst (v := 0) hx hb dX3_put_9 (by decide) ?_
    refine lv_istore (lv' := [(9, .int 0), (7, .long 0), (6, .int 0), (5, .int 0), (0, .ref (ad 3 0 0)), (1, .ref (ad 9 0 0)), (2, .int x2), (3, .int x3), (4, .int x4)]) hx hb dX3_put_10 hl (by decide) rfl (fun ls hl => ?_)
    refine lv_iconst (v := 0) hx hb dX3_put_12 (by decide) ?_
    refine lv_istore (lv' := [(10, .int 0), (9, .int 0), (7, .long 0), (6, .int 0), (5, .int 0), (0, .ref (ad 3 0 0)), (1, .ref (ad 9 0 0)), (2, .int x2), (3, .int x3), (4, .int x4)]) hx hb dX3_put_13 hl (by decide) rfl (fun ls hl => ?_)
    obtain ⟨t15, hw15, hfo15⟩ := zbi hf
    have KL15 : ∀ (n : Nat) (y5l15 : Int32) (y6l15 : Int32) (y7l15 : Int64) (y9l15 : Int32) (y10l15 : Int32) (H : Heap) (locs : List Loc) (ls : Array Slot), zG D aC A nl ad σ s H → va_S A s.heap H locs → lv_has ls 12 [(0, .ref (ad 3 0 0)), (1, .ref (ad 9 0 0)), (2, .int x2), (3, .int x3), (4, .int x4), (5, .int y5l15), (6, .int y6l15), (7, .long y7l15), (9, .int y9l15), (10, .int y10l15)] → zwh (fun (q : (Int32 × Int32 × Int64 × Int32 × Int32)) => f_X3_put_L15 σ x2 x3 x4 q.1 q.2.1 q.2.2.1 q.2.2.2.1 q.2.2.2.2) n (y5l15, y6l15, y7l15, y9l15, y10l15) = some t15 → zWk p l e ({ frames := 1, cells := 0, slots := 0, locals := 23 } : Room) s m args below meth c A (some (.int r)) (fun t => zG D aC A nl ad σ' t t.heap ∧ True) H locs (F0 m 15 ls []) := by
      intro n
      induction n with
      | zero =>
        intro y5l15 y6l15 y7l15 y9l15 y10l15 H locs ls hG hS hl hw
        exact (zwh_0 hw).elim
      | succ n ih15 =>
        intro y5l15 y6l15 y7l15 y9l15 y10l15 H locs ls hG hS hl hw
        obtain ⟨rr15, hf, hk15⟩ := zwh_u hw
        have hf : f_X3_put_L15 σ x2 x3 x4 y5l15 y6l15 y7l15 y9l15 y10l15 = some rr15 := hf
        unfold f_X3_put_L15 at hf
        have KJ113_15 : ∀ (y5b113 : Int32) (y6b113 : Int32) (y7b113 : Int64) (y9b113 : Int32) (y10b113 : Int32)   (H : Heap) (locs : List Loc) (ls : Array Slot), zG D aC A nl ad σ s H → va_S A s.heap H locs → lv_has ls 12 [(0, .ref (ad 3 0 0)), (1, .ref (ad 9 0 0)), (2, .int x2), (3, .int x3), (4, .int x4), (5, .int y5b113), (6, .int y6b113), (7, .long y7b113), (9, .int y9b113), (10, .int y10b113)] → (f_X3_put_B113_15 σ x2 x3 x4 y5b113 y6b113 y7b113 y9b113 y10b113) = some rr15 → zWk p l e ({ frames := 1, cells := 0, slots := 0, locals := 23 } : Room) s m args below meth c A (some (.int r)) (fun t => zG D aC A nl ad σ' t t.heap ∧ True) H locs (F0 m 113 ls []) := by
          intro y5b113 y6b113 y7b113 y9b113 y10b113   H locs ls hG hS hl hf
          unfold f_X3_put_B113_15 at hf
          refine lv_iinc (v := (y10b113 + 1)) (lv' := [(10, .int (y10b113 + 1)), (0, .ref (ad 3 0 0)), (1, .ref (ad 9 0 0)), (2, .int x2), (3, .int x3), (4, .int x4), (5, .int y5b113), (6, .int y6b113), (7, .long y7b113), (9, .int y9b113)]) hx hb dX3_put_113 hl (k := 9) rfl rfl (by decide) rfl (fun ls hl => ?_)
          refine lv_goto (tgt := 15) hx hb dX3_put_116 (by decide) ?_
          cases hf
          exact ih15 y5b113 y6b113 y7b113 y9b113 (y10b113 + 1) H locs ls hG hS (lv_sub hl [1, 2, 3, 4, 5, 6, 7, 8, 9, 0] rfl) hk15
        have KJ101_15 : ∀ (y5b101 : Int32) (y10b101 : Int32) (t0b101 : Int32) (t1b101 : Int32)   (H : Heap) (locs : List Loc) (ls : Array Slot), zG D aC A nl ad σ s H → va_S A s.heap H locs → lv_has ls 12 [(0, .ref (ad 3 0 0)), (1, .ref (ad 9 0 0)), (2, .int x2), (3, .int x3), (4, .int x4), (5, .int y5b101), (10, .int y10b101)] → (f_X3_put_B101_15 σ x2 x3 x4 y5b101 y10b101 t0b101 t1b101) = some rr15 → zWk p l e ({ frames := 1, cells := 0, slots := 0, locals := 23 } : Room) s m args below meth c A (some (.int r)) (fun t => zG D aC A nl ad σ' t t.heap ∧ True) H locs (F0 m 101 ls [.int t1b101, .int t0b101]) := by
          intro y5b101 y10b101 t0b101 t1b101   H locs ls hG hS hl hf
          unfold f_X3_put_B101_15 at hf
          refine lv_ior hx hb dX3_put_101 ?_
          refine lv_istore (lv' := [(9, .int (t0b101 ||| t1b101)), (0, .ref (ad 3 0 0)), (1, .ref (ad 9 0 0)), (2, .int x2), (3, .int x3), (4, .int x4), (5, .int y5b101), (10, .int y10b101)]) hx hb dX3_put_102 hl (by decide) rfl (fun ls hl => ?_)
          refine lv_iinc (v := (y5b101 + 1)) (lv' := [(5, .int (y5b101 + 1)), (9, .int (t0b101 ||| t1b101)), (0, .ref (ad 3 0 0)), (1, .ref (ad 9 0 0)), (2, .int x2), (3, .int x3), (4, .int x4), (10, .int y10b101)]) hx hb dX3_put_104 hl (k := 6) rfl rfl (by decide) rfl (fun ls hl => ?_)
          refine lv_iconst (v := 0) hx hb dX3_put_107 (by decide) ?_
          refine lv_istore (lv' := [(6, .int 0), (5, .int (y5b101 + 1)), (9, .int (t0b101 ||| t1b101)), (0, .ref (ad 3 0 0)), (1, .ref (ad 9 0 0)), (2, .int x2), (3, .int x3), (4, .int x4), (10, .int y10b101)]) hx hb dX3_put_108 hl (by decide) rfl (fun ls hl => ?_)
          refine lv_lconst (v := 0) hx hb dX3_put_110 (by decide) ?_
          refine lv_lstore (lv' := [(7, .long 0), (6, .int 0), (5, .int (y5b101 + 1)), (9, .int (t0b101 ||| t1b101)), (0, .ref (ad 3 0 0)), (1, .ref (ad 9 0 0)), (2, .int x2), (3, .int x3), (4, .int x4), (10, .int y10b101)]) hx hb dX3_put_111 hl (by decide) rfl (fun ls hl => ?_)
          exact KJ113_15 (y5b101 + 1) 0 0 (t0b101 ||| t1b101) y10b101 H locs ls hG hS (lv_sub hl [4, 5, 6, 7, 8, 2, 1, 0, 3, 9] rfl) hf
        have KJ100_15 : ∀ (y5b100 : Int32) (y10b100 : Int32) (t0b100 : Int32)   (H : Heap) (locs : List Loc) (ls : Array Slot), zG D aC A nl ad σ s H → va_S A s.heap H locs → lv_has ls 12 [(0, .ref (ad 3 0 0)), (1, .ref (ad 9 0 0)), (2, .int x2), (3, .int x3), (4, .int x4), (5, .int y5b100), (10, .int y10b100)] → (f_X3_put_B100_15 σ x2 x3 x4 y5b100 y10b100 t0b100) = some rr15 → zWk p l e ({ frames := 1, cells := 0, slots := 0, locals := 23 } : Room) s m args below meth c A (some (.int r)) (fun t => zG D aC A nl ad σ' t t.heap ∧ True) H locs (F0 m 100 ls [.int t0b100]) := by
          intro y5b100 y10b100 t0b100   H locs ls hG hS hl hf
          unfold f_X3_put_B100_15 at hf
          refine lv_iconst (v := 0) hx hb dX3_put_100 (by decide) ?_
          exact KJ101_15 y5b100 y10b100 t0b100 0 H locs ls hG hS (lv_sub hl [0, 1, 2, 3, 4, 5, 6] rfl) hf
        have KJ65_15 : ∀ (y5b65 : Int32) (y6b65 : Int32) (y9b65 : Int32) (y10b65 : Int32) (t0b65 : Int64)   (H : Heap) (locs : List Loc) (ls : Array Slot), zG D aC A nl ad σ s H → va_S A s.heap H locs → lv_has ls 12 [(0, .ref (ad 3 0 0)), (1, .ref (ad 9 0 0)), (2, .int x2), (3, .int x3), (4, .int x4), (5, .int y5b65), (6, .int y6b65), (9, .int y9b65), (10, .int y10b65)] → (f_X3_put_B65_15 σ x2 x3 x4 y5b65 y6b65 y9b65 y10b65 t0b65) = some rr15 → zWk p l e ({ frames := 1, cells := 0, slots := 0, locals := 23 } : Room) s m args below meth c A (some (.int r)) (fun t => zG D aC A nl ad σ' t t.heap ∧ True) H locs (F0 m 65 ls [.long t0b65]) := by
          intro y5b65 y6b65 y9b65 y10b65 t0b65   H locs ls hG hS hl hf
          unfold f_X3_put_B65_15 at hf
          refine lv_lstore (lv' := [(7, .long t0b65), (0, .ref (ad 3 0 0)), (1, .ref (ad 9 0 0)), (2, .int x2), (3, .int x3), (4, .int x4), (5, .int y5b65), (6, .int y6b65), (9, .int y9b65), (10, .int y10b65)]) hx hb dX3_put_65 hl (by decide) rfl (fun ls hl => ?_)
          refine lv_iinc (v := (y6b65 + 1)) (lv' := [(6, .int (y6b65 + 1)), (7, .long t0b65), (0, .ref (ad 3 0 0)), (1, .ref (ad 9 0 0)), (2, .int x2), (3, .int x3), (4, .int x4), (5, .int y5b65), (9, .int y9b65), (10, .int y10b65)]) hx hb dX3_put_67 hl (k := 7) rfl rfl (by decide) rfl (fun ls hl => ?_)
          refine lv_goto (tgt := 113) hx hb dX3_put_70 (by decide) ?_
          exact KJ113_15 y5b65 (y6b65 + 1) t0b65 y9b65 y10b65 H locs ls hG hS (lv_sub hl [2, 3, 4, 5, 6, 7, 0, 1, 8, 9] rfl) hf
        have KJ37_15 : ∀ (y5b37 : Int32) (y6b37 : Int32) (y7b37 : Int64) (y9b37 : Int32) (y10b37 : Int32) (t0b37 : Int32)   (H : Heap) (locs : List Loc) (ls : Array Slot), zG D aC A nl ad σ s H → va_S A s.heap H locs → lv_has ls 12 [(0, .ref (ad 3 0 0)), (1, .ref (ad 9 0 0)), (2, .int x2), (3, .int x3), (4, .int x4), (5, .int y5b37), (6, .int y6b37), (7, .long y7b37), (9, .int y9b37), (10, .int y10b37)] → (f_X3_put_B37_15 σ x2 x3 x4 y5b37 y6b37 y7b37 y9b37 y10b37 t0b37) = some rr15 → zWk p l e ({ frames := 1, cells := 0, slots := 0, locals := 23 } : Room) s m args below meth c A (some (.int r)) (fun t => zG D aC A nl ad σ' t t.heap ∧ True) H locs (F0 m 37 ls [.int t0b37]) := by
          intro y5b37 y6b37 y7b37 y9b37 y10b37 t0b37   H locs ls hG hS hl hf
          unfold f_X3_put_B37_15 at hf
          refine lv_istore (lv' := [(11, .int t0b37), (0, .ref (ad 3 0 0)), (1, .ref (ad 9 0 0)), (2, .int x2), (3, .int x3), (4, .int x4), (5, .int y5b37), (6, .int y6b37), (7, .long y7b37), (9, .int y9b37), (10, .int y10b37)]) hx hb dX3_put_37 hl (by decide) rfl (fun ls hl => ?_)
          refine lv_iload hx hb dX3_put_39 (lv_at hl 0 rfl) ?_
          refine z_callS (n := 1) (rest := []) (st1 := [.int (f_X10_isLetter t0b37)]) S hG hS hZ (fun _ _ h => h) (c_X10_isLetter l D aC zs A nl ad σ t0b37 (f_X10_isLetter t0b37) rfl) zw_1158 zw_340 zw_109 zw_341 (by decide +kernel) ⟨rfl, rfl⟩ ⟨(Nat.le_of_ble_eq_true rfl), (Nat.le_of_ble_eq_true rfl)⟩ hl.1 rfl (by rfl) (by rfl) (Nat.le_of_ble_eq_true rfl) dX3_put_41 ⟨Nat.zero_le _, Nat.zero_le _⟩ (fun H locs hz22 hG hS => ?_)
          refine lv_if_eq (tgt := 73) hx hb dX3_put_44 (by decide) (fun c23 => ?_) (fun c23 => ?_)
          · have hf := zif_p c23 hf
            refine lv_iload hx hb dX3_put_73 (lv_at hl 7 rfl) ?_
            refine lv_if_le (tgt := 113) hx hb dX3_put_75 (by decide) (fun c24 => ?_) (fun c24 => ?_)
            · have hf := zif_p c24 hf
              exact KJ113_15 y5b37 y6b37 y7b37 y9b37 y10b37 H locs ls hG hS (lv_sub hl [1, 2, 3, 4, 5, 6, 7, 8, 9, 10] rfl) hf
            · have hf := zif_n c24 hf
              refine lv_iload hx hb dX3_put_78 (lv_at hl 9 rfl) ?_
              refine lv_iload hx hb dX3_put_80 (lv_at hl 7 rfl) ?_
              refine lv_bipush (v := 8) hx hb dX3_put_82 (by decide) ?_
              refine lv_icmp_gt (tgt := 100) hx hb dX3_put_84 (by decide) (fun c25 => ?_) (fun c25 => ?_)
              · have hf := zif_p c25 hf
                exact KJ100_15 y5b37 y10b37 y9b37 H locs ls hG hS (lv_sub hl [1, 2, 3, 4, 5, 6, 10] rfl) hf
              · have hf := zif_n c25 hf
                refine lv_aload_n hx hb dX3_put_87 rfl (lv_at hl 1 rfl) ?_
                refine lv_lload hx hb dX3_put_88 (lv_at hl 8 rfl) ?_
                obtain ⟨r26, er26, hf⟩ := zbi hf
                refine z_callV (n := 1) (rest := [.int y9b37]) (st1 := [.int r26, .int y9b37]) (c0 := 3) (i0 := 0) (hZ.2.1 (3, 0) (by decide)) (by rfl) S hG hS hZ (fun _ _ h => h) (c_X3_isName l D aC zs A nl ad σ y7b37 r26 er26) zw_1160 zw_1161 zw_1162 zw_35 zw_1163 (by decide +kernel) ⟨rfl, rfl⟩ ⟨(Nat.le_of_ble_eq_true rfl), (Nat.le_of_ble_eq_true rfl)⟩ hl.1 rfl (by rfl) (by rfl) (Nat.le_of_ble_eq_true rfl) dX3_put_90 ⟨Nat.zero_le _, Nat.zero_le _⟩ (fun H locs hz27 hG hS => ?_)
                have Kv30 : ∀ (v30 : Int32) (ls : Array Slot), lv_has ls 12 [(11, .int t0b37), (0, .ref (ad 3 0 0)), (1, .ref (ad 9 0 0)), (2, .int x2), (3, .int x3), (4, .int x4), (5, .int y5b37), (6, .int y6b37), (7, .long y7b37), (9, .int y9b37), (10, .int y10b37)] → (f_X3_put_B113_15 σ x2 x3 x4 (y5b37 + 1) 0 0 (y9b37 ||| v30) y10b37) = some rr15 → zWk p l e ({ frames := 1, cells := 0, slots := 0, locals := 23 } : Room) s m args below meth c A (some (.int r)) (fun t => zG D aC A nl ad σ' t t.heap ∧ True) H locs (F0 m 101 ls [.int v30, .int y9b37]) := by
                  intro v30 ls hl hf
                  refine lv_ior hx hb dX3_put_101 ?_
                  refine lv_istore (lv' := [(9, .int (y9b37 ||| v30)), (11, .int t0b37), (0, .ref (ad 3 0 0)), (1, .ref (ad 9 0 0)), (2, .int x2), (3, .int x3), (4, .int x4), (5, .int y5b37), (6, .int y6b37), (7, .long y7b37), (10, .int y10b37)]) hx hb dX3_put_102 hl (by decide) rfl (fun ls hl => ?_)
                  refine lv_iinc (v := (y5b37 + 1)) (lv' := [(5, .int (y5b37 + 1)), (9, .int (y9b37 ||| v30)), (11, .int t0b37), (0, .ref (ad 3 0 0)), (1, .ref (ad 9 0 0)), (2, .int x2), (3, .int x3), (4, .int x4), (6, .int y6b37), (7, .long y7b37), (10, .int y10b37)]) hx hb dX3_put_104 hl (k := 7) rfl rfl (by decide) rfl (fun ls hl => ?_)
                  refine lv_iconst (v := 0) hx hb dX3_put_107 (by decide) ?_
                  refine lv_istore (lv' := [(6, .int 0), (5, .int (y5b37 + 1)), (9, .int (y9b37 ||| v30)), (11, .int t0b37), (0, .ref (ad 3 0 0)), (1, .ref (ad 9 0 0)), (2, .int x2), (3, .int x3), (4, .int x4), (7, .long y7b37), (10, .int y10b37)]) hx hb dX3_put_108 hl (by decide) rfl (fun ls hl => ?_)
                  refine lv_lconst (v := 0) hx hb dX3_put_110 (by decide) ?_
                  refine lv_lstore (lv' := [(7, .long 0), (6, .int 0), (5, .int (y5b37 + 1)), (9, .int (y9b37 ||| v30)), (11, .int t0b37), (0, .ref (ad 3 0 0)), (1, .ref (ad 9 0 0)), (2, .int x2), (3, .int x3), (4, .int x4), (10, .int y10b37)]) hx hb dX3_put_111 hl (by decide) rfl (fun ls hl => ?_)
                  exact KJ113_15 (y5b37 + 1) 0 0 (y9b37 ||| v30) y10b37 H locs ls hG hS (lv_sub hl [5, 6, 7, 8, 9, 2, 1, 0, 3, 10] rfl) hf
                refine lv_if_eq (tgt := 100) hx hb dX3_put_93 (by decide) (fun c29 => ?_) (fun c29 => ?_)
                · rw [if_pos c29] at hf
                  refine lv_iconst (v := 0) hx hb dX3_put_100 (by decide) ?_
                  exact Kv30 _ ls hl hf
                · rw [if_neg c29] at hf
                  refine lv_iconst (v := 1) hx hb dX3_put_96 (by decide) ?_
                  refine lv_goto (tgt := 101) hx hb dX3_put_97 (by decide) ?_
                  exact Kv30 _ ls hl hf
          · have hf := zif_n c23 hf
            refine lv_iload hx hb dX3_put_47 (lv_at hl 7 rfl) ?_
            refine lv_bipush (v := 8) hx hb dX3_put_49 (by decide) ?_
            refine lv_icmp_ge (tgt := 64) hx hb dX3_put_51 (by decide) (fun c31 => ?_) (fun c31 => ?_)
            · have hf := zif_p c31 hf
              refine lv_lconst (v := 0) hx hb dX3_put_64 (by decide) ?_
              exact KJ65_15 y5b37 y6b37 y9b37 y10b37 0 H locs ls hG hS (lv_sub hl [1, 2, 3, 4, 5, 6, 7, 9, 10] rfl) hf
            · have hf := zif_n c31 hf
              refine lv_lload hx hb dX3_put_54 (lv_at hl 8 rfl) ?_
              refine lv_iload hx hb dX3_put_56 (lv_at hl 0 rfl) ?_
              refine z_callS (n := 2) (rest := []) (st1 := [.long (f_X10_join y7b37 t0b37)]) S hG hS hZ (fun _ _ h => h) (c_X10_join l D aC zs zfX A nl ad σ y7b37 t0b37 (f_X10_join y7b37 t0b37) rfl) zw_1159 zw_181 zw_109 zw_182 (by decide +kernel) ⟨rfl, rfl⟩ ⟨(Nat.le_of_ble_eq_true rfl), (Nat.le_of_ble_eq_true rfl)⟩ hl.1 rfl (by rfl) (by rfl) (Nat.le_of_ble_eq_true rfl) dX3_put_58 ⟨Nat.zero_le _, Nat.zero_le _⟩ (fun H locs hz32 hG hS => ?_)
              refine lv_goto (tgt := 65) hx hb dX3_put_61 (by decide) ?_
              exact KJ65_15 y5b37 y6b37 y9b37 y10b37 (f_X10_join y7b37 t0b37) H locs ls hG hS (lv_sub hl [1, 2, 3, 4, 5, 6, 7, 9, 10] rfl) hf
        refine lv_iload hx hb dX3_put_15 (lv_at hl 9 rfl) ?_
        refine lv_iload_n hx hb dX3_put_17 rfl (lv_at hl 2 rfl) ?_
        refine lv_icmp_gt (tgt := 119) hx hb dX3_put_18 (by decide) (fun c20 => ?_) (fun c20 => ?_)
        · have hf := zif_p c20 hf
          cases hf
          have hk15 : ((y5l15, y9l15) : (Int32 × Int32)) = t15 := hk15
          have hf := hfo15
          rw [← hk15] at hf
          have hf : (f_X3_put_B119 σ x2 x3 x4 y5l15 y9l15) = some (r, σ') := hf
          exact KJ119 y5l15 y9l15 σ H locs ls hG hS (lv_sub hl [0, 1, 2, 3, 4, 5, 8] rfl) hf
        · have hf := zif_n c20 hf
          refine lv_iload hx hb dX3_put_21 (lv_at hl 9 rfl) ?_
          refine lv_iload_n hx hb dX3_put_23 rfl (lv_at hl 2 rfl) ?_
          refine lv_icmp_ge (tgt := 36) hx hb dX3_put_24 (by decide) (fun c21 => ?_) (fun c21 => ?_)
          · have hf := zif_p c21 hf
            refine lv_iconst (v := (-1)) hx hb dX3_put_36 (by decide) ?_
            exact KJ37_15 y5l15 y6l15 y7l15 y9l15 y10l15 (-1) H locs ls hG hS (lv_sub hl [0, 1, 2, 3, 4, 5, 6, 7, 8, 9] rfl) hf
          · have hf := zif_n c21 hf
            refine lv_aload_n hx hb dX3_put_27 rfl (lv_at hl 1 rfl) ?_
            refine lv_iload hx hb dX3_put_28 (lv_at hl 9 rfl) ?_
            obtain ⟨r33, er33, hf⟩ := zbi hf
            refine z_callV (n := 1) (rest := []) (st1 := [.int r33]) (c0 := 9) (i0 := 0) (hZ.2.1 (9, 0) (by decide)) (by rfl) S hG hS hZ (fun _ _ h => h) (c_X9_at l D aC zs A nl ad σ y10l15 r33 er33) zw_1157 zw_327 zw_328 zw_15 zw_329 (by decide +kernel) ⟨rfl, rfl⟩ ⟨(Nat.le_of_ble_eq_true rfl), (Nat.le_of_ble_eq_true rfl)⟩ hl.1 rfl (by rfl) (by rfl) (Nat.le_of_ble_eq_true rfl) dX3_put_30 ⟨Nat.zero_le _, Nat.zero_le _⟩ (fun H locs hz34 hG hS => ?_)
            refine lv_goto (tgt := 37) hx hb dX3_put_33 (by decide) ?_
            exact KJ37_15 y5l15 y6l15 y7l15 y9l15 y10l15 r33 H locs ls hG hS (lv_sub hl [0, 1, 2, 3, 4, 5, 6, 7, 8, 9] rfl) hf
    exact KL15 zFu 0 0 0 0 0 H locs ls hG hS (lv_sub hl [5, 6, 7, 8, 9, 4, 3, 2, 1, 0] rfl) hw15
  exact hK0 _ _ ls hG hS hl hf
set_option maxRecDepth 100000 in
set_option maxHeartbeats 4000000 in
theorem c_X3_part (l : Launch) (D : va_G) (aC : Nat → ClassId) (zs : Nat × Nat) (A : Nat → Prop) (nl : zNL) (ad : Nat → Nat → Nat → Nat) (σ : zM) (x1 : Int32) (x2 : Int32) (r : Int32)  (hf : f_X3_part σ x1 x2 = some r) : Met l yX3_part (Cond.code yX3_part cX3_part 3 (some .int) :: wsL_law) ({ frames := 0, cells := 0, slots := 0, locals := 0 } : Room) (zP D aC zs zfX A nl ad σ [.ref (ad 3 0 0), .int x1, .int x2]) (zQ (some (.int r)) (fun t => zG D aC A nl ad σ t t.heap ∧ True) A) 0 0 A := by
  refine Met.ofW (cc := cX3_part) (maxL := 3) (ret := (some .int)) (by decide) rfl ?_
  intro p e s m args below meth c s₁ B hml hv
  obtain ⟨rfl, hG, hZ⟩ := hv
  have hx := B.exec
  have hb := B.bytes
  have hr := B.returns
  have hts : ∀ w ∈ wsL_law, w.before ([.ref (ad 3 0 0), .int x1, .int x2] : List Value).toArray s = true := fun w h => (atoms_spec B.pre) w (List.mem_cons_of_mem _ h)
  have hown : s.vm.findClass RX3 = some m.cls := findClass_of_methodNamed B.named
  have hlocks := B.notSynchronized
  have S : zS p m c cX3_part 3 s ([.ref (ad 3 0 0), .int x1, .int x2] : List Value).toArray RX3 := ⟨hx, hb, hml, hown, hts⟩
  have hS : va_S A s.heap s.heap [] := va_S.rf
  have hl := lv_entry ([.ref (ad 3 0 0), .int x1, .int x2]) (n := 3) (Nat.le_of_ble_eq_true rfl)
  rw [lg_entry_eq]
  generalize (lg_sl ([.ref (ad 3 0 0), .int x1, .int x2]) ++ List.replicate (3 - (lg_sl ([.ref (ad 3 0 0), .int x1, .int x2])).length) Slot.unset).toArray = ls at hl ⊢
  have hl : lv_has ls 3 [(0, .ref (ad 3 0 0)), (1, .int x1), (2, .int x2)] := hl
  generalize hargs : ([.ref (ad 3 0 0), .int x1, .int x2] : List Value).toArray = args at S hts ⊢
  clear hargs
  have hK0 : ∀ (H : Heap) (locs : List Loc) (ls : Array Slot), zG D aC A nl ad σ s H → va_S A s.heap H locs → lv_has ls 3 [(0, .ref (ad 3 0 0)), (1, .int x1), (2, .int x2)] → f_X3_part σ x1 x2 = some r → zWk p l e ({ frames := 0, cells := 0, slots := 0, locals := 0 } : Room) s m args below meth c A (some (.int r)) (fun t => zG D aC A nl ad σ t t.heap ∧ True) H locs (F0 m 0 ls []) := by
    intro H locs ls hG hS hl hf
    unfold f_X3_part at hf
    refine lv_iload_n hx hb dX3_part_0 rfl (lv_at hl 1 rfl) ?_
    refine lv_if_lt (tgt := 39) hx hb dX3_part_1 (by decide) (fun c1 => ?_) (fun c1 => ?_)
    · have hf := zif_p c1 hf
      refine lv_iconst (v := (-1)) hx hb dX3_part_39 (by decide) ?_
      have hq := (Option.some.inj hf)
      subst hq
      exact z_iret S hG hS hlocks trivial hr dX3_part_40
    · have hf := zif_n c1 hf
      refine lv_iload_n hx hb dX3_part_4 rfl (lv_at hl 1 rfl) ?_
      refine lv_aload_n hx hb dX3_part_5 rfl (lv_at hl 0 rfl) ?_
      refine z_get (c0 := 3) (i0 := 0) (k0 := 4) (T := TX3) (v := .int (zI σ 3 0 4)) S hG (hZ.2.1 (3, 0) (by decide)) rfl inlX3 (by decide) rfl zw_200 rfl dX3_part_6 ?_
      refine lv_icmp_ge (tgt := 39) hx hb dX3_part_9 (by decide) (fun c2 => ?_) (fun c2 => ?_)
      · have hf := zif_p c2 hf
        refine lv_iconst (v := (-1)) hx hb dX3_part_39 (by decide) ?_
        have hq := (Option.some.inj hf)
        subst hq
        exact z_iret S hG hS hlocks trivial hr dX3_part_40
      · have hf := zif_n c2 hf
        refine lv_iload_n hx hb dX3_part_12 rfl (lv_at hl 1 rfl) ?_
        refine lv_aload_n hx hb dX3_part_13 rfl (lv_at hl 0 rfl) ?_
        refine z_get (c0 := 3) (i0 := 0) (k0 := 1) (T := TX3) (v := .ref (ad 3 0 2)) S hG (hZ.2.1 (3, 0) (by decide)) rfl inlX3 (by decide) rfl zw_197 rfl dX3_part_14 ?_
        refine z_alen (c0 := 3) (i0 := 0) (k0 := 1) (n := 4) (v := 50) S hG (hZ.2.1 (3, 0) (by decide)) (by decide) rfl (by decide) (by rfl) dX3_part_17 ?_
        refine lv_icmp_ge (tgt := 39) hx hb dX3_part_18 (by decide) (fun c3 => ?_) (fun c3 => ?_)
        · have hf := zif_p c3 hf
          refine lv_iconst (v := (-1)) hx hb dX3_part_39 (by decide) ?_
          have hq := (Option.some.inj hf)
          subst hq
          exact z_iret S hG hS hlocks trivial hr dX3_part_40
        · have hf := zif_n c3 hf
          refine lv_iload_n hx hb dX3_part_21 rfl (lv_at hl 1 rfl) ?_
          refine lv_aload_n hx hb dX3_part_22 rfl (lv_at hl 0 rfl) ?_
          refine z_get (c0 := 3) (i0 := 0) (k0 := 2) (T := TX3) (v := .ref (ad 3 0 3)) S hG (hZ.2.1 (3, 0) (by decide)) rfl inlX3 (by decide) rfl zw_198 rfl dX3_part_23 ?_
          refine z_alen (c0 := 3) (i0 := 0) (k0 := 2) (n := 4) (v := 50) S hG (hZ.2.1 (3, 0) (by decide)) (by decide) rfl (by decide) (by rfl) dX3_part_26 ?_
          refine lv_icmp_ge (tgt := 39) hx hb dX3_part_27 (by decide) (fun c4 => ?_) (fun c4 => ?_)
          · have hf := zif_p c4 hf
            refine lv_iconst (v := (-1)) hx hb dX3_part_39 (by decide) ?_
            have hq := (Option.some.inj hf)
            subst hq
            exact z_iret S hG hS hlocks trivial hr dX3_part_40
          · have hf := zif_n c4 hf
            refine lv_iload_n hx hb dX3_part_30 rfl (lv_at hl 1 rfl) ?_
            refine lv_aload_n hx hb dX3_part_31 rfl (lv_at hl 0 rfl) ?_
            refine z_get (c0 := 3) (i0 := 0) (k0 := 3) (T := TX3) (v := .ref (ad 3 0 4)) S hG (hZ.2.1 (3, 0) (by decide)) rfl inlX3 (by decide) rfl zw_199 rfl dX3_part_32 ?_
            refine z_alen (c0 := 3) (i0 := 0) (k0 := 3) (n := 4) (v := 50) S hG (hZ.2.1 (3, 0) (by decide)) (by decide) rfl (by decide) (by rfl) dX3_part_35 ?_
            refine lv_icmp_lt (tgt := 41) hx hb dX3_part_36 (by decide) (fun c5 => ?_) (fun c5 => ?_)
            · have hf := zif_p c5 hf
              refine lv_iload_n hx hb dX3_part_41 rfl (lv_at hl 2 rfl) ?_
              by_cases c6 : x2 = 0
              · have hf := zif_p c6 hf
                refine lv_tableIn (x := x2) (off := 26) (tgt := 68) hx hb dX3_part_42 (by rw [c6]; decide) (by rw [c6]; decide) (by rw [c6]; decide) (by decide) ?_
                refine lv_aload_n hx hb dX3_part_68 rfl (lv_at hl 0 rfl) ?_
                refine z_get (c0 := 3) (i0 := 0) (k0 := 1) (T := TX3) (v := .ref (ad 3 0 2)) S hG (hZ.2.1 (3, 0) (by decide)) rfl inlX3 (by decide) rfl zw_197 rfl dX3_part_69 ?_
                refine lv_iload_n hx hb dX3_part_72 rfl (lv_at hl 1 rfl) ?_
                obtain ⟨i7, hi7, hf⟩ := zbi hf
                refine z_iald (c0 := 3) (i0 := 0) (k0 := 1) S hG (hZ.2.1 (3, 0) (by decide)) (by decide) rfl hi7 dX3_part_73 ?_
                have hq := (Option.some.inj hf)
                subst hq
                exact z_iret S hG hS hlocks trivial hr dX3_part_74
              · have hf := zif_n c6 hf
                by_cases c8 : x2 = 1
                · have hf := zif_p c8 hf
                  refine lv_tableIn (x := x2) (off := 33) (tgt := 75) hx hb dX3_part_42 (by rw [c8]; decide) (by rw [c8]; decide) (by rw [c8]; decide) (by decide) ?_
                  refine lv_aload_n hx hb dX3_part_75 rfl (lv_at hl 0 rfl) ?_
                  refine z_get (c0 := 3) (i0 := 0) (k0 := 2) (T := TX3) (v := .ref (ad 3 0 3)) S hG (hZ.2.1 (3, 0) (by decide)) rfl inlX3 (by decide) rfl zw_198 rfl dX3_part_76 ?_
                  refine lv_iload_n hx hb dX3_part_79 rfl (lv_at hl 1 rfl) ?_
                  obtain ⟨i9, hi9, hf⟩ := zbi hf
                  refine z_iald (c0 := 3) (i0 := 0) (k0 := 2) S hG (hZ.2.1 (3, 0) (by decide)) (by decide) rfl hi9 dX3_part_80 ?_
                  have hq := (Option.some.inj hf)
                  subst hq
                  exact z_iret S hG hS hlocks trivial hr dX3_part_81
                · have hf := zif_n c8 hf
                  by_cases c10 : x2 = 2
                  · have hf := zif_p c10 hf
                    refine lv_tableIn (x := x2) (off := 40) (tgt := 82) hx hb dX3_part_42 (by rw [c10]; decide) (by rw [c10]; decide) (by rw [c10]; decide) (by decide) ?_
                    refine lv_aload_n hx hb dX3_part_82 rfl (lv_at hl 0 rfl) ?_
                    refine z_get (c0 := 3) (i0 := 0) (k0 := 3) (T := TX3) (v := .ref (ad 3 0 4)) S hG (hZ.2.1 (3, 0) (by decide)) rfl inlX3 (by decide) rfl zw_199 rfl dX3_part_83 ?_
                    refine lv_iload_n hx hb dX3_part_86 rfl (lv_at hl 1 rfl) ?_
                    obtain ⟨i11, hi11, hf⟩ := zbi hf
                    refine z_iald (c0 := 3) (i0 := 0) (k0 := 3) S hG (hZ.2.1 (3, 0) (by decide)) (by decide) rfl hi11 dX3_part_87 ?_
                    have hq := (Option.some.inj hf)
                    subst hq
                    exact z_iret S hG hS hlocks trivial hr dX3_part_88
                  · have hf := zif_n c10 hf
                    have hout : x2.toInt < 0 ∨ 2 < x2.toInt := by
                      rcases (show x2.toInt < 0 ∨ 2 < x2.toInt ∨ x2.toInt = 0 ∨ x2.toInt = 1 ∨ x2.toInt = 2 by omega) with h | h | h | h | h
                      · exact Or.inl h
                      · exact Or.inr h
                      · exact absurd (Int32.toInt_inj.mp (h.trans (by decide : (0 : Int) = (0 : Int32).toInt))) c6
                      · exact absurd (Int32.toInt_inj.mp (h.trans (by decide : (1 : Int) = (1 : Int32).toInt))) c8
                      · exact absurd (Int32.toInt_inj.mp (h.trans (by decide : (2 : Int) = (2 : Int32).toInt))) c10
                    refine lv_tableOut (x := x2) (tgt := 89) hx hb dX3_part_42 hout (by decide) ?_
                    refine lv_iconst (v := (-1)) hx hb dX3_part_89 (by decide) ?_
                    have hq := (Option.some.inj hf)
                    subst hq
                    exact z_iret S hG hS hlocks trivial hr dX3_part_90
            · have hf := zif_n c5 hf
              refine lv_iconst (v := (-1)) hx hb dX3_part_39 (by decide) ?_
              have hq := (Option.some.inj hf)
              subst hq
              exact z_iret S hG hS hlocks trivial hr dX3_part_40
  exact hK0 _ _ ls hG hS hl hf
set_option maxRecDepth 100000 in
set_option maxHeartbeats 4000000 in
theorem c_X4_place (l : Launch) (D : va_G) (aC : Nat → ClassId) (zs : Nat × Nat) (A : Nat → Prop) (nl : zNL) (ad : Nat → Nat → Nat → Nat) (σ : zM)  (r : Int32)  (hf : f_X4_place σ = some r) : Met l yX4_place (Cond.code yX4_place cX4_place 1 (some .int) :: wsL_law) ({ frames := 0, cells := 0, slots := 0, locals := 0 } : Room) (zP D aC zs zfX A nl ad σ [.ref (ad 4 0 0)]) (zQ (some (.int r)) (fun t => zG D aC A nl ad σ t t.heap ∧ True) A) 0 0 A := by
  refine Met.ofW (cc := cX4_place) (maxL := 1) (ret := (some .int)) (by decide) rfl ?_
  intro p e s m args below meth c s₁ B hml hv
  obtain ⟨rfl, hG, hZ⟩ := hv
  have hx := B.exec
  have hb := B.bytes
  have hr := B.returns
  have hts : ∀ w ∈ wsL_law, w.before ([.ref (ad 4 0 0)] : List Value).toArray s = true := fun w h => (atoms_spec B.pre) w (List.mem_cons_of_mem _ h)
  have hown : s.vm.findClass RX4 = some m.cls := findClass_of_methodNamed B.named
  have hlocks := B.notSynchronized
  have S : zS p m c cX4_place 1 s ([.ref (ad 4 0 0)] : List Value).toArray RX4 := ⟨hx, hb, hml, hown, hts⟩
  have hS : va_S A s.heap s.heap [] := va_S.rf
  have hl := lv_entry ([.ref (ad 4 0 0)]) (n := 1) (Nat.le_of_ble_eq_true rfl)
  rw [lg_entry_eq]
  generalize (lg_sl ([.ref (ad 4 0 0)]) ++ List.replicate (1 - (lg_sl ([.ref (ad 4 0 0)])).length) Slot.unset).toArray = ls at hl ⊢
  have hl : lv_has ls 1 [(0, .ref (ad 4 0 0))] := hl
  generalize hargs : ([.ref (ad 4 0 0)] : List Value).toArray = args at S hts ⊢
  clear hargs
  have hK0 : ∀ (H : Heap) (locs : List Loc) (ls : Array Slot), zG D aC A nl ad σ s H → va_S A s.heap H locs → lv_has ls 1 [(0, .ref (ad 4 0 0))] → f_X4_place σ = some r → zWk p l e ({ frames := 0, cells := 0, slots := 0, locals := 0 } : Room) s m args below meth c A (some (.int r)) (fun t => zG D aC A nl ad σ t t.heap ∧ True) H locs (F0 m 0 ls []) := by
    intro H locs ls hG hS hl hf
    unfold f_X4_place at hf
    refine lv_aload_n hx hb dX4_place_0 rfl (lv_at hl 0 rfl) ?_
    refine z_get (c0 := 4) (i0 := 0) (k0 := 8) (T := TX4) (v := .int (zI σ 4 0 8)) S hG (hZ.2.1 (4, 0) (by decide)) rfl inlX4 (by decide) rfl zw_118 rfl dX4_place_1 ?_
    refine lv_if_lt (tgt := 31) hx hb dX4_place_4 (by decide) (fun c1 => ?_) (fun c1 => ?_)
    · have hf := zif_p c1 hf
      refine lv_iconst (v := (-1)) hx hb dX4_place_31 (by decide) ?_
      have hq := (Option.some.inj hf)
      subst hq
      exact z_iret S hG hS hlocks trivial hr dX4_place_32
    · have hf := zif_n c1 hf
      refine lv_aload_n hx hb dX4_place_7 rfl (lv_at hl 0 rfl) ?_
      refine z_get (c0 := 4) (i0 := 0) (k0 := 8) (T := TX4) (v := .int (zI σ 4 0 8)) S hG (hZ.2.1 (4, 0) (by decide)) rfl inlX4 (by decide) rfl zw_118 rfl dX4_place_8 ?_
      refine lv_aload_n hx hb dX4_place_11 rfl (lv_at hl 0 rfl) ?_
      refine z_get (c0 := 4) (i0 := 0) (k0 := 4) (T := TX4) (v := .ref (ad 4 0 5)) S hG (hZ.2.1 (4, 0) (by decide)) rfl inlX4 (by decide) rfl zw_112 rfl dX4_place_12 ?_
      refine z_alen (c0 := 4) (i0 := 0) (k0 := 4) (n := 4) (v := 901) S hG (hZ.2.1 (4, 0) (by decide)) (by decide) rfl (by decide) (by rfl) dX4_place_15 ?_
      refine lv_icmp_ge (tgt := 31) hx hb dX4_place_16 (by decide) (fun c2 => ?_) (fun c2 => ?_)
      · have hf := zif_p c2 hf
        refine lv_iconst (v := (-1)) hx hb dX4_place_31 (by decide) ?_
        have hq := (Option.some.inj hf)
        subst hq
        exact z_iret S hG hS hlocks trivial hr dX4_place_32
      · have hf := zif_n c2 hf
        refine lv_aload_n hx hb dX4_place_19 rfl (lv_at hl 0 rfl) ?_
        refine z_get (c0 := 4) (i0 := 0) (k0 := 4) (T := TX4) (v := .ref (ad 4 0 5)) S hG (hZ.2.1 (4, 0) (by decide)) rfl inlX4 (by decide) rfl zw_112 rfl dX4_place_20 ?_
        refine lv_aload_n hx hb dX4_place_23 rfl (lv_at hl 0 rfl) ?_
        refine z_get (c0 := 4) (i0 := 0) (k0 := 8) (T := TX4) (v := .int (zI σ 4 0 8)) S hG (hZ.2.1 (4, 0) (by decide)) rfl inlX4 (by decide) rfl zw_118 rfl dX4_place_24 ?_
        obtain ⟨i3, hi3, hf⟩ := zbi hf
        refine z_iald (c0 := 4) (i0 := 0) (k0 := 4) S hG (hZ.2.1 (4, 0) (by decide)) (by decide) rfl hi3 dX4_place_27 ?_
        refine lv_goto (tgt := 32) hx hb dX4_place_28 (by decide) ?_
        have hq := (Option.some.inj hf)
        subst hq
        exact z_iret S hG hS hlocks trivial hr dX4_place_32
  exact hK0 _ _ ls hG hS hl hf
set_option maxRecDepth 100000 in
set_option maxHeartbeats 4000000 in
theorem c_X4_isBlank (l : Launch) (D : va_G) (aC : Nat → ClassId) (zs : Nat × Nat) (A : Nat → Prop) (nl : zNL) (ad : Nat → Nat → Nat → Nat) (σ : zM) (x0 : Int32) (r : Int32)  (hf : f_X4_isBlank x0 = r) : Met l yX4_isBlank (Cond.code yX4_isBlank cX4_isBlank 1 (some .boolean) :: wsL_law) ({ frames := 0, cells := 0, slots := 0, locals := 0 } : Room) (zP D aC zs zfX A nl ad σ [.int x0]) (zQ (some (.int r)) (fun t => zG D aC A nl ad σ t t.heap ∧ (r = 0 ∨ r = 1)) A) 0 0 A := by
  refine Met.ofW (cc := cX4_isBlank) (maxL := 1) (ret := (some .boolean)) (by decide) rfl ?_
  intro p e s m args below meth c s₁ B hml hv
  obtain ⟨rfl, hG, hZ⟩ := hv
  have hx := B.exec
  have hb := B.bytes
  have hr := B.returns
  have hts : ∀ w ∈ wsL_law, w.before ([.int x0] : List Value).toArray s = true := fun w h => (atoms_spec B.pre) w (List.mem_cons_of_mem _ h)
  have hown : s.vm.findClass RX4 = some m.cls := findClass_of_methodNamed B.named
  have hlocks := B.notSynchronized
  have S : zS p m c cX4_isBlank 1 s ([.int x0] : List Value).toArray RX4 := ⟨hx, hb, hml, hown, hts⟩
  have hS : va_S A s.heap s.heap [] := va_S.rf
  have hl := lv_entry ([.int x0]) (n := 1) (Nat.le_of_ble_eq_true rfl)
  rw [lg_entry_eq]
  generalize (lg_sl ([.int x0]) ++ List.replicate (1 - (lg_sl ([.int x0])).length) Slot.unset).toArray = ls at hl ⊢
  have hl : lv_has ls 1 [(0, .int x0)] := hl
  generalize hargs : ([.int x0] : List Value).toArray = args at S hts ⊢
  clear hargs
  have KJ12 : ∀ (H : Heap) (locs : List Loc) (ls : Array Slot), zG D aC A nl ad σ s H → va_S A s.heap H locs → lv_has ls 1 [(0, .int x0)] → (f_X4_isBlank_B12 x0) = r → zWk p l e ({ frames := 0, cells := 0, slots := 0, locals := 0 } : Room) s m args below meth c A (some (.int r)) (fun t => zG D aC A nl ad σ t t.heap ∧ (r = 0 ∨ r = 1)) H locs (F0 m 12 ls []) := by
    intro    H locs ls hG hS hl hf
    unfold f_X4_isBlank_B12 at hf
    refine lv_iconst (v := 1) hx hb dX4_isBlank_12 (by decide) ?_
    refine lv_goto (tgt := 17) hx hb dX4_isBlank_13 (by decide) ?_
    have hq := hf
    subst hq
    exact z_zret S hG hS hlocks (Or.inr rfl) hr dX4_isBlank_17
  have hK0 : ∀ (H : Heap) (locs : List Loc) (ls : Array Slot), zG D aC A nl ad σ s H → va_S A s.heap H locs → lv_has ls 1 [(0, .int x0)] → f_X4_isBlank x0 = r → zWk p l e ({ frames := 0, cells := 0, slots := 0, locals := 0 } : Room) s m args below meth c A (some (.int r)) (fun t => zG D aC A nl ad σ t t.heap ∧ (r = 0 ∨ r = 1)) H locs (F0 m 0 ls []) := by
    intro H locs ls hG hS hl hf
    unfold f_X4_isBlank at hf
    refine lv_iload_n hx hb dX4_isBlank_0 rfl (lv_at hl 0 rfl) ?_
    refine lv_bipush (v := 32) hx hb dX4_isBlank_1 (by decide) ?_
    refine lv_icmp_eq (tgt := 12) hx hb dX4_isBlank_3 (by decide) (fun c1 => ?_) (fun c1 => ?_)
    · have hf := zif_p c1 hf
      exact KJ12 H locs ls hG hS (lv_sub hl [0] rfl) hf
    · have hf := zif_n c1 hf
      refine lv_iload_n hx hb dX4_isBlank_6 rfl (lv_at hl 0 rfl) ?_
      refine lv_bipush (v := 10) hx hb dX4_isBlank_7 (by decide) ?_
      refine lv_icmp_ne (tgt := 16) hx hb dX4_isBlank_9 (by decide) (fun c2 => ?_) (fun c2 => ?_)
      · have hf := zif_n c2 hf
        refine lv_iconst (v := 0) hx hb dX4_isBlank_16 (by decide) ?_
        have hq := hf
        subst hq
        exact z_zret S hG hS hlocks (Or.inl rfl) hr dX4_isBlank_17
      · have hf := zif_p c2 hf
        exact KJ12 H locs ls hG hS (lv_sub hl [0] rfl) hf
  exact hK0 _ _ ls hG hS hl hf
set_option maxRecDepth 100000 in
set_option maxHeartbeats 4000000 in
theorem c_X4_isDigit (l : Launch) (D : va_G) (aC : Nat → ClassId) (zs : Nat × Nat) (A : Nat → Prop) (nl : zNL) (ad : Nat → Nat → Nat → Nat) (σ : zM) (x0 : Int32) (r : Int32)  (hf : f_X4_isDigit x0 = r) : Met l yX4_isDigit (Cond.code yX4_isDigit cX4_isDigit 1 (some .boolean) :: wsL_law) ({ frames := 0, cells := 0, slots := 0, locals := 0 } : Room) (zP D aC zs zfX A nl ad σ [.int x0]) (zQ (some (.int r)) (fun t => zG D aC A nl ad σ t t.heap ∧ (r = 0 ∨ r = 1)) A) 0 0 A := by
  refine Met.ofW (cc := cX4_isDigit) (maxL := 1) (ret := (some .boolean)) (by decide) rfl ?_
  intro p e s m args below meth c s₁ B hml hv
  obtain ⟨rfl, hG, hZ⟩ := hv
  have hx := B.exec
  have hb := B.bytes
  have hr := B.returns
  have hts : ∀ w ∈ wsL_law, w.before ([.int x0] : List Value).toArray s = true := fun w h => (atoms_spec B.pre) w (List.mem_cons_of_mem _ h)
  have hown : s.vm.findClass RX4 = some m.cls := findClass_of_methodNamed B.named
  have hlocks := B.notSynchronized
  have S : zS p m c cX4_isDigit 1 s ([.int x0] : List Value).toArray RX4 := ⟨hx, hb, hml, hown, hts⟩
  have hS : va_S A s.heap s.heap [] := va_S.rf
  have hl := lv_entry ([.int x0]) (n := 1) (Nat.le_of_ble_eq_true rfl)
  rw [lg_entry_eq]
  generalize (lg_sl ([.int x0]) ++ List.replicate (1 - (lg_sl ([.int x0])).length) Slot.unset).toArray = ls at hl ⊢
  have hl : lv_has ls 1 [(0, .int x0)] := hl
  generalize hargs : ([.int x0] : List Value).toArray = args at S hts ⊢
  clear hargs
  have hK0 : ∀ (H : Heap) (locs : List Loc) (ls : Array Slot), zG D aC A nl ad σ s H → va_S A s.heap H locs → lv_has ls 1 [(0, .int x0)] → f_X4_isDigit x0 = r → zWk p l e ({ frames := 0, cells := 0, slots := 0, locals := 0 } : Room) s m args below meth c A (some (.int r)) (fun t => zG D aC A nl ad σ t t.heap ∧ (r = 0 ∨ r = 1)) H locs (F0 m 0 ls []) := by
    intro H locs ls hG hS hl hf
    unfold f_X4_isDigit at hf
    refine lv_iload_n hx hb dX4_isDigit_0 rfl (lv_at hl 0 rfl) ?_
    refine lv_bipush (v := 48) hx hb dX4_isDigit_1 (by decide) ?_
    refine lv_icmp_lt (tgt := 16) hx hb dX4_isDigit_3 (by decide) (fun c1 => ?_) (fun c1 => ?_)
    · have hf := zif_p c1 hf
      refine lv_iconst (v := 0) hx hb dX4_isDigit_16 (by decide) ?_
      have hq := hf
      subst hq
      exact z_zret S hG hS hlocks (Or.inl rfl) hr dX4_isDigit_17
    · have hf := zif_n c1 hf
      refine lv_iload_n hx hb dX4_isDigit_6 rfl (lv_at hl 0 rfl) ?_
      refine lv_bipush (v := 57) hx hb dX4_isDigit_7 (by decide) ?_
      refine lv_icmp_gt (tgt := 16) hx hb dX4_isDigit_9 (by decide) (fun c2 => ?_) (fun c2 => ?_)
      · have hf := zif_p c2 hf
        refine lv_iconst (v := 0) hx hb dX4_isDigit_16 (by decide) ?_
        have hq := hf
        subst hq
        exact z_zret S hG hS hlocks (Or.inl rfl) hr dX4_isDigit_17
      · have hf := zif_n c2 hf
        refine lv_iconst (v := 1) hx hb dX4_isDigit_12 (by decide) ?_
        refine lv_goto (tgt := 17) hx hb dX4_isDigit_13 (by decide) ?_
        have hq := hf
        subst hq
        exact z_zret S hG hS hlocks (Or.inr rfl) hr dX4_isDigit_17
  exact hK0 _ _ ls hG hS hl hf
set_option maxRecDepth 100000 in
set_option maxHeartbeats 4000000 in
theorem c_X4_isKnownSign (l : Launch) (D : va_G) (aC : Nat → ClassId) (zs : Nat × Nat) (A : Nat → Prop) (nl : zNL) (ad : Nat → Nat → Nat → Nat) (σ : zM) (x0 : Int32) (r : Int32)  (hf : f_X4_isKnownSign x0 = r) : Met l yX4_isKnownSign (Cond.code yX4_isKnownSign cX4_isKnownSign 1 (some .boolean) :: wsL_law) ({ frames := 0, cells := 0, slots := 0, locals := 0 } : Room) (zP D aC zs zfX A nl ad σ [.int x0]) (zQ (some (.int r)) (fun t => zG D aC A nl ad σ t t.heap ∧ (r = 0 ∨ r = 1)) A) 0 0 A := by
  refine Met.ofW (cc := cX4_isKnownSign) (maxL := 1) (ret := (some .boolean)) (by decide) rfl ?_
  intro p e s m args below meth c s₁ B hml hv
  obtain ⟨rfl, hG, hZ⟩ := hv
  have hx := B.exec
  have hb := B.bytes
  have hr := B.returns
  have hts : ∀ w ∈ wsL_law, w.before ([.int x0] : List Value).toArray s = true := fun w h => (atoms_spec B.pre) w (List.mem_cons_of_mem _ h)
  have hown : s.vm.findClass RX4 = some m.cls := findClass_of_methodNamed B.named
  have hlocks := B.notSynchronized
  have S : zS p m c cX4_isKnownSign 1 s ([.int x0] : List Value).toArray RX4 := ⟨hx, hb, hml, hown, hts⟩
  have hS : va_S A s.heap s.heap [] := va_S.rf
  have hl := lv_entry ([.int x0]) (n := 1) (Nat.le_of_ble_eq_true rfl)
  rw [lg_entry_eq]
  generalize (lg_sl ([.int x0]) ++ List.replicate (1 - (lg_sl ([.int x0])).length) Slot.unset).toArray = ls at hl ⊢
  have hl : lv_has ls 1 [(0, .int x0)] := hl
  generalize hargs : ([.int x0] : List Value).toArray = args at S hts ⊢
  clear hargs
  have KJ36 : ∀ (H : Heap) (locs : List Loc) (ls : Array Slot), zG D aC A nl ad σ s H → va_S A s.heap H locs → lv_has ls 1 [(0, .int x0)] → (f_X4_isKnownSign_B36 x0) = r → zWk p l e ({ frames := 0, cells := 0, slots := 0, locals := 0 } : Room) s m args below meth c A (some (.int r)) (fun t => zG D aC A nl ad σ t t.heap ∧ (r = 0 ∨ r = 1)) H locs (F0 m 36 ls []) := by
    intro    H locs ls hG hS hl hf
    unfold f_X4_isKnownSign_B36 at hf
    refine lv_iconst (v := 1) hx hb dX4_isKnownSign_36 (by decide) ?_
    refine lv_goto (tgt := 41) hx hb dX4_isKnownSign_37 (by decide) ?_
    have hq := hf
    subst hq
    exact z_zret S hG hS hlocks (Or.inr rfl) hr dX4_isKnownSign_41
  have hK0 : ∀ (H : Heap) (locs : List Loc) (ls : Array Slot), zG D aC A nl ad σ s H → va_S A s.heap H locs → lv_has ls 1 [(0, .int x0)] → f_X4_isKnownSign x0 = r → zWk p l e ({ frames := 0, cells := 0, slots := 0, locals := 0 } : Room) s m args below meth c A (some (.int r)) (fun t => zG D aC A nl ad σ t t.heap ∧ (r = 0 ∨ r = 1)) H locs (F0 m 0 ls []) := by
    intro H locs ls hG hS hl hf
    unfold f_X4_isKnownSign at hf
    refine lv_iload_n hx hb dX4_isKnownSign_0 rfl (lv_at hl 0 rfl) ?_
    refine lv_bipush (v := 59) hx hb dX4_isKnownSign_1 (by decide) ?_
    refine lv_icmp_eq (tgt := 36) hx hb dX4_isKnownSign_3 (by decide) (fun c1 => ?_) (fun c1 => ?_)
    · have hf := zif_p c1 hf
      exact KJ36 H locs ls hG hS (lv_sub hl [0] rfl) hf
    · have hf := zif_n c1 hf
      refine lv_iload_n hx hb dX4_isKnownSign_6 rfl (lv_at hl 0 rfl) ?_
      refine lv_bipush (v := 40) hx hb dX4_isKnownSign_7 (by decide) ?_
      refine lv_icmp_eq (tgt := 36) hx hb dX4_isKnownSign_9 (by decide) (fun c2 => ?_) (fun c2 => ?_)
      · have hf := zif_p c2 hf
        exact KJ36 H locs ls hG hS (lv_sub hl [0] rfl) hf
      · have hf := zif_n c2 hf
        refine lv_iload_n hx hb dX4_isKnownSign_12 rfl (lv_at hl 0 rfl) ?_
        refine lv_bipush (v := 41) hx hb dX4_isKnownSign_13 (by decide) ?_
        refine lv_icmp_eq (tgt := 36) hx hb dX4_isKnownSign_15 (by decide) (fun c3 => ?_) (fun c3 => ?_)
        · have hf := zif_p c3 hf
          exact KJ36 H locs ls hG hS (lv_sub hl [0] rfl) hf
        · have hf := zif_n c3 hf
          refine lv_iload_n hx hb dX4_isKnownSign_18 rfl (lv_at hl 0 rfl) ?_
          refine lv_bipush (v := 60) hx hb dX4_isKnownSign_19 (by decide) ?_
          refine lv_icmp_eq (tgt := 36) hx hb dX4_isKnownSign_21 (by decide) (fun c4 => ?_) (fun c4 => ?_)
          · have hf := zif_p c4 hf
            exact KJ36 H locs ls hG hS (lv_sub hl [0] rfl) hf
          · have hf := zif_n c4 hf
            refine lv_iload_n hx hb dX4_isKnownSign_24 rfl (lv_at hl 0 rfl) ?_
            refine lv_bipush (v := 62) hx hb dX4_isKnownSign_25 (by decide) ?_
            refine lv_icmp_eq (tgt := 36) hx hb dX4_isKnownSign_27 (by decide) (fun c5 => ?_) (fun c5 => ?_)
            · have hf := zif_p c5 hf
              exact KJ36 H locs ls hG hS (lv_sub hl [0] rfl) hf
            · have hf := zif_n c5 hf
              refine lv_iload_n hx hb dX4_isKnownSign_30 rfl (lv_at hl 0 rfl) ?_
              refine lv_bipush (v := 61) hx hb dX4_isKnownSign_31 (by decide) ?_
              refine lv_icmp_ne (tgt := 40) hx hb dX4_isKnownSign_33 (by decide) (fun c6 => ?_) (fun c6 => ?_)
              · have hf := zif_n c6 hf
                refine lv_iconst (v := 0) hx hb dX4_isKnownSign_40 (by decide) ?_
                have hq := hf
                subst hq
                exact z_zret S hG hS hlocks (Or.inl rfl) hr dX4_isKnownSign_41
              · have hf := zif_p c6 hf
                exact KJ36 H locs ls hG hS (lv_sub hl [0] rfl) hf
  exact hK0 _ _ ls hG hS hl hf
set_option maxRecDepth 100000 in
set_option maxHeartbeats 4000000 in
theorem c_X4_put (l : Launch) (D : va_G) (aC : Nat → ClassId) (zs : Nat × Nat) (A : Nat → Prop) (nl : zNL) (ad : Nat → Nat → Nat → Nat) (σ : zM) (x1 : Int32) (x2 : Int32) (x3 : Int32) (x4 : Int64)  (σ' : zM)  (hf : f_X4_put σ x1 x2 x3 x4 = some σ') : Met l yX4_put (Cond.code yX4_put cX4_put 6 none :: wsL_law) ({ frames := 0, cells := 0, slots := 0, locals := 0 } : Room) (zP D aC zs zfX A nl ad σ [.ref (ad 4 0 0), .int x1, .int x2, .int x3, .long x4]) (zQ none (fun t => zG D aC A nl ad σ' t t.heap ∧ True) A) 0 0 A := by
  refine Met.ofW (cc := cX4_put) (maxL := 6) (ret := none) (by decide) rfl ?_
  intro p e s m args below meth c s₁ B hml hv
  obtain ⟨rfl, hG, hZ⟩ := hv
  have hx := B.exec
  have hb := B.bytes
  have hr := B.returns
  have hts : ∀ w ∈ wsL_law, w.before ([.ref (ad 4 0 0), .int x1, .int x2, .int x3, .long x4] : List Value).toArray s = true := fun w h => (atoms_spec B.pre) w (List.mem_cons_of_mem _ h)
  have hown : s.vm.findClass RX4 = some m.cls := findClass_of_methodNamed B.named
  have hlocks := B.notSynchronized
  have S : zS p m c cX4_put 6 s ([.ref (ad 4 0 0), .int x1, .int x2, .int x3, .long x4] : List Value).toArray RX4 := ⟨hx, hb, hml, hown, hts⟩
  have hS : va_S A s.heap s.heap [] := va_S.rf
  have hl := lv_entry ([.ref (ad 4 0 0), .int x1, .int x2, .int x3, .long x4]) (n := 6) (Nat.le_of_ble_eq_true rfl)
  rw [lg_entry_eq]
  generalize (lg_sl ([.ref (ad 4 0 0), .int x1, .int x2, .int x3, .long x4]) ++ List.replicate (6 - (lg_sl ([.ref (ad 4 0 0), .int x1, .int x2, .int x3, .long x4])).length) Slot.unset).toArray = ls at hl ⊢
  have hl : lv_has ls 6 [(0, .ref (ad 4 0 0)), (1, .int x1), (2, .int x2), (3, .int x3), (4, .long x4)] := hl
  generalize hargs : ([.ref (ad 4 0 0), .int x1, .int x2, .int x3, .long x4] : List Value).toArray = args at S hts ⊢
  clear hargs
  have hK0 : ∀ (H : Heap) (locs : List Loc) (ls : Array Slot), zG D aC A nl ad σ s H → va_S A s.heap H locs → lv_has ls 6 [(0, .ref (ad 4 0 0)), (1, .int x1), (2, .int x2), (3, .int x3), (4, .long x4)] → f_X4_put σ x1 x2 x3 x4 = some σ' → zWk p l e ({ frames := 0, cells := 0, slots := 0, locals := 0 } : Room) s m args below meth c A none (fun t => zG D aC A nl ad σ' t t.heap ∧ True) H locs (F0 m 0 ls []) := by
    intro H locs ls hG hS hl hf
    unfold f_X4_put at hf
    refine lv_iload_n hx hb dX4_put_0 rfl (lv_at hl 1 rfl) ?_
    refine lv_if_lt (tgt := 53) hx hb dX4_put_1 (by decide) (fun c1 => ?_) (fun c1 => ?_)
    · have hf := zif_p c1 hf
      have hq := (Option.some.inj hf)
      subst hq
      exact z_vret S hG hS hlocks trivial hr dX4_put_53
    · have hf := zif_n c1 hf
      refine lv_iload_n hx hb dX4_put_4 rfl (lv_at hl 1 rfl) ?_
      refine lv_aload_n hx hb dX4_put_5 rfl (lv_at hl 0 rfl) ?_
      refine z_get (c0 := 4) (i0 := 0) (k0 := 3) (T := TX4) (v := .ref (ad 4 0 4)) S hG (hZ.2.1 (4, 0) (by decide)) rfl inlX4 (by decide) rfl zw_111 rfl dX4_put_6 ?_
      refine z_alen (c0 := 4) (i0 := 0) (k0 := 3) (n := 4) (v := 901) S hG (hZ.2.1 (4, 0) (by decide)) (by decide) rfl (by decide) (by rfl) dX4_put_9 ?_
      refine lv_icmp_ge (tgt := 53) hx hb dX4_put_10 (by decide) (fun c2 => ?_) (fun c2 => ?_)
      · have hf := zif_p c2 hf
        have hq := (Option.some.inj hf)
        subst hq
        exact z_vret S hG hS hlocks trivial hr dX4_put_53
      · have hf := zif_n c2 hf
        refine lv_iload_n hx hb dX4_put_13 rfl (lv_at hl 1 rfl) ?_
        refine lv_aload_n hx hb dX4_put_14 rfl (lv_at hl 0 rfl) ?_
        refine z_get (c0 := 4) (i0 := 0) (k0 := 4) (T := TX4) (v := .ref (ad 4 0 5)) S hG (hZ.2.1 (4, 0) (by decide)) rfl inlX4 (by decide) rfl zw_112 rfl dX4_put_15 ?_
        refine z_alen (c0 := 4) (i0 := 0) (k0 := 4) (n := 4) (v := 901) S hG (hZ.2.1 (4, 0) (by decide)) (by decide) rfl (by decide) (by rfl) dX4_put_18 ?_
        refine lv_icmp_ge (tgt := 53) hx hb dX4_put_19 (by decide) (fun c3 => ?_) (fun c3 => ?_)
        · have hf := zif_p c3 hf
          have hq := (Option.some.inj hf)
          subst hq
          exact z_vret S hG hS hlocks trivial hr dX4_put_53
        · have hf := zif_n c3 hf
          refine lv_iload_n hx hb dX4_put_22 rfl (lv_at hl 1 rfl) ?_
          refine lv_aload_n hx hb dX4_put_23 rfl (lv_at hl 0 rfl) ?_
          refine z_get (c0 := 4) (i0 := 0) (k0 := 5) (T := TX4) (v := .ref (ad 4 0 6)) S hG (hZ.2.1 (4, 0) (by decide)) rfl inlX4 (by decide) rfl zw_113 rfl dX4_put_24 ?_
          refine z_alen (c0 := 4) (i0 := 0) (k0 := 5) (n := 7) (v := 901) S hG (hZ.2.1 (4, 0) (by decide)) (by decide) rfl (by decide) (by rfl) dX4_put_27 ?_
          refine lv_icmp_ge (tgt := 53) hx hb dX4_put_28 (by decide) (fun c4 => ?_) (fun c4 => ?_)
          · have hf := zif_p c4 hf
            have hq := (Option.some.inj hf)
            subst hq
            exact z_vret S hG hS hlocks trivial hr dX4_put_53
          · have hf := zif_n c4 hf
            refine lv_aload_n hx hb dX4_put_31 rfl (lv_at hl 0 rfl) ?_
            refine z_get (c0 := 4) (i0 := 0) (k0 := 3) (T := TX4) (v := .ref (ad 4 0 4)) S hG (hZ.2.1 (4, 0) (by decide)) rfl inlX4 (by decide) rfl zw_111 rfl dX4_put_32 ?_
            refine lv_iload_n hx hb dX4_put_35 rfl (lv_at hl 1 rfl) ?_
            refine lv_iload_n hx hb dX4_put_36 rfl (lv_at hl 2 rfl) ?_
            obtain ⟨i5, hi5, hf⟩ := zbi hf
            refine z_iast (c0 := 4) (i0 := 0) (k0 := 3) S hG hS (hZ.2.1 (4, 0) (by decide)) (by decide) rfl hi5 dX4_put_37 (fun H locs hG hS => ?_)
            obtain ⟨σ6, eσ6, hf⟩ := zlt_s hf
            rw [← eσ6] at hG
            refine lv_aload_n hx hb dX4_put_38 rfl (lv_at hl 0 rfl) ?_
            refine z_get (c0 := 4) (i0 := 0) (k0 := 4) (T := TX4) (v := .ref (ad 4 0 5)) S hG (hZ.2.1 (4, 0) (by decide)) rfl inlX4 (by decide) rfl zw_112 rfl dX4_put_39 ?_
            refine lv_iload_n hx hb dX4_put_42 rfl (lv_at hl 1 rfl) ?_
            refine lv_iload_n hx hb dX4_put_43 rfl (lv_at hl 3 rfl) ?_
            obtain ⟨i7, hi7, hf⟩ := zbi hf
            refine z_iast (c0 := 4) (i0 := 0) (k0 := 4) S hG hS (hZ.2.1 (4, 0) (by decide)) (by decide) rfl hi7 dX4_put_44 (fun H locs hG hS => ?_)
            obtain ⟨σ8, eσ8, hf⟩ := zlt_s hf
            rw [← eσ8] at hG
            refine lv_aload_n hx hb dX4_put_45 rfl (lv_at hl 0 rfl) ?_
            refine z_get (c0 := 4) (i0 := 0) (k0 := 5) (T := TX4) (v := .ref (ad 4 0 6)) S hG (hZ.2.1 (4, 0) (by decide)) rfl inlX4 (by decide) rfl zw_113 rfl dX4_put_46 ?_
            refine lv_iload_n hx hb dX4_put_49 rfl (lv_at hl 1 rfl) ?_
            refine lv_lload hx hb dX4_put_50 (lv_at hl 4 rfl) ?_
            obtain ⟨i9, hi9, hf⟩ := zbi hf
            refine z_last (c0 := 4) (i0 := 0) (k0 := 5) S hG hS (hZ.2.1 (4, 0) (by decide)) (by decide) rfl hi9 dX4_put_52 (fun H locs hG hS => ?_)
            obtain ⟨σ10, eσ10, hf⟩ := zlt_s hf
            rw [← eσ10] at hG
            have hq := (Option.some.inj hf)
            subst hq
            exact z_vret S hG hS hlocks trivial hr dX4_put_53
  exact hK0 _ _ ls hG hS hl hf
set_option maxRecDepth 100000 in
set_option maxHeartbeats 4000000 in
theorem c_X10_codeOf (l : Launch) (D : va_G) (aC : Nat → ClassId) (zs : Nat × Nat) (A : Nat → Prop) (nl : zNL) (ad : Nat → Nat → Nat → Nat) (σ : zM) (x1 : Int64) (r : Int32)  (hf : f_X10_codeOf σ x1 = some r) : Met l yX10_codeOf (Cond.code yX10_codeOf cX10_codeOf 4 (some .int) :: wsL_law) ({ frames := 0, cells := 0, slots := 0, locals := 0 } : Room) (zP D aC zs zfX A nl ad σ [.ref (ad 10 0 0), .long x1]) (zQ (some (.int r)) (fun t => zG D aC A nl ad σ t t.heap ∧ True) A) 0 0 A := by
  refine Met.ofW (cc := cX10_codeOf) (maxL := 4) (ret := (some .int)) (by decide) rfl ?_
  intro p e s m args below meth c s₁ B hml hv
  obtain ⟨rfl, hG, hZ⟩ := hv
  have hx := B.exec
  have hb := B.bytes
  have hr := B.returns
  have hts : ∀ w ∈ wsL_law, w.before ([.ref (ad 10 0 0), .long x1] : List Value).toArray s = true := fun w h => (atoms_spec B.pre) w (List.mem_cons_of_mem _ h)
  have hown : s.vm.findClass RX10 = some m.cls := findClass_of_methodNamed B.named
  have hlocks := B.notSynchronized
  have S : zS p m c cX10_codeOf 4 s ([.ref (ad 10 0 0), .long x1] : List Value).toArray RX10 := ⟨hx, hb, hml, hown, hts⟩
  have hS : va_S A s.heap s.heap [] := va_S.rf
  have hl := lv_entry ([.ref (ad 10 0 0), .long x1]) (n := 4) (Nat.le_of_ble_eq_true rfl)
  rw [lg_entry_eq]
  generalize (lg_sl ([.ref (ad 10 0 0), .long x1]) ++ List.replicate (4 - (lg_sl ([.ref (ad 10 0 0), .long x1])).length) Slot.unset).toArray = ls at hl ⊢
  have hl : lv_has ls 4 [(0, .ref (ad 10 0 0)), (1, .long x1)] := hl
  generalize hargs : ([.ref (ad 10 0 0), .long x1] : List Value).toArray = args at S hts ⊢
  clear hargs
  have hK0 : ∀ (H : Heap) (locs : List Loc) (ls : Array Slot), zG D aC A nl ad σ s H → va_S A s.heap H locs → lv_has ls 4 [(0, .ref (ad 10 0 0)), (1, .long x1)] → f_X10_codeOf σ x1 = some r → zWk p l e ({ frames := 0, cells := 0, slots := 0, locals := 0 } : Room) s m args below meth c A (some (.int r)) (fun t => zG D aC A nl ad σ t t.heap ∧ True) H locs (F0 m 0 ls []) := by
    intro H locs ls hG hS hl hf
    unfold f_X10_codeOf at hf
    refine lv_iconst (v := 0) hx hb dX10_codeOf_0 (by decide) ?_
    refine lv_istore_n (lv' := [(3, .int 0), (0, .ref (ad 10 0 0)), (1, .long x1)]) hx hb dX10_codeOf_1 rfl hl (by decide) rfl (fun ls hl => ?_)
    obtain ⟨t2, hw2, hfo2⟩ := zbi hf
    have KL2 : ∀ (n : Nat) (y3l2 : Int32) (H : Heap) (locs : List Loc) (ls : Array Slot), zG D aC A nl ad σ s H → va_S A s.heap H locs → lv_has ls 4 [(0, .ref (ad 10 0 0)), (1, .long x1), (3, .int y3l2)] → zwh (fun (q : Int32) => f_X10_codeOf_L2 σ x1 q) n y3l2 = some t2 → zWk p l e ({ frames := 0, cells := 0, slots := 0, locals := 0 } : Room) s m args below meth c A (some (.int r)) (fun t => zG D aC A nl ad σ t t.heap ∧ True) H locs (F0 m 2 ls []) := by
      intro n
      induction n with
      | zero =>
        intro y3l2 H locs ls hG hS hl hw
        exact (zwh_0 hw).elim
      | succ n ih2 =>
        intro y3l2 H locs ls hG hS hl hw
        obtain ⟨rr2, hf, hk2⟩ := zwh_u hw
        have hf : f_X10_codeOf_L2 σ x1 y3l2 = some rr2 := hf
        unfold f_X10_codeOf_L2 at hf
        refine lv_iload_n hx hb dX10_codeOf_2 rfl (lv_at hl 2 rfl) ?_
        refine lv_aload_n hx hb dX10_codeOf_3 rfl (lv_at hl 0 rfl) ?_
        refine z_get (c0 := 10) (i0 := 0) (k0 := 0) (T := TX10) (v := .ref (ad 10 0 1)) S hG (hZ.2.1 (10, 0) (by decide)) rfl inlX10 (by decide) rfl zw_126 rfl dX10_codeOf_4 ?_
        refine z_alen (c0 := 10) (i0 := 0) (k0 := 0) (n := 7) (v := 36) S hG (hZ.2.1 (10, 0) (by decide)) (by decide) rfl (by decide) (by rfl) dX10_codeOf_7 ?_
        refine lv_icmp_ge (tgt := 30) hx hb dX10_codeOf_8 (by decide) (fun c4 => ?_) (fun c4 => ?_)
        · have hf := zif_p c4 hf
          cases hf
          have hk2 : ((.inr ()) : (Int32 ⊕ Unit)) = t2 := hk2
          have hf := hfo2
          rw [← hk2] at hf
          have hf : (some (-1)) = some r := hf
          refine lv_iconst (v := (-1)) hx hb dX10_codeOf_30 (by decide) ?_
          have hq := (Option.some.inj hf)
          subst hq
          exact z_iret S hG hS hlocks trivial hr dX10_codeOf_31
        · have hf := zif_n c4 hf
          refine lv_aload_n hx hb dX10_codeOf_11 rfl (lv_at hl 0 rfl) ?_
          refine z_get (c0 := 10) (i0 := 0) (k0 := 0) (T := TX10) (v := .ref (ad 10 0 1)) S hG (hZ.2.1 (10, 0) (by decide)) rfl inlX10 (by decide) rfl zw_126 rfl dX10_codeOf_12 ?_
          refine lv_iload_n hx hb dX10_codeOf_15 rfl (lv_at hl 2 rfl) ?_
          obtain ⟨i5, hi5, hf⟩ := zbi hf
          refine z_lald (c0 := 10) (i0 := 0) (k0 := 0) S hG (hZ.2.1 (10, 0) (by decide)) (by decide) rfl hi5 dX10_codeOf_16 ?_
          refine lv_lload_n hx hb dX10_codeOf_17 rfl (lv_at hl 1 rfl) ?_
          refine W.lcmp hx hb dX10_codeOf_18 ?_
          refine lv_if_ne (tgt := 24) hx hb dX10_codeOf_19 (by decide) (fun c6 => ?_) (fun c6 => ?_)
          · have hf := zif_n (fun h => c6 ((lg_cmp_eq (zL σ 10 0 0 i5) x1).mpr h)) hf
            refine lv_iinc (v := (y3l2 + 1)) (lv' := [(3, .int (y3l2 + 1)), (0, .ref (ad 10 0 0)), (1, .long x1)]) hx hb dX10_codeOf_24 hl (k := 2) rfl rfl (by decide) rfl (fun ls hl => ?_)
            refine lv_goto (tgt := 2) hx hb dX10_codeOf_27 (by decide) ?_
            cases hf
            exact ih2 (y3l2 + 1) H locs ls hG hS (lv_sub hl [1, 2, 0] rfl) hk2
          · have hf := zif_p ((lg_cmp_eq (zL σ 10 0 0 i5) x1).mp  c6) hf
            cases hf
            have hk2 : ((.inl y3l2) : (Int32 ⊕ Unit)) = t2 := hk2
            have hf := hfo2
            rw [← hk2] at hf
            have hf : (some y3l2) = some r := hf
            refine lv_iload_n hx hb dX10_codeOf_22 rfl (lv_at hl 2 rfl) ?_
            have hq := (Option.some.inj hf)
            subst hq
            exact z_iret S hG hS hlocks trivial hr dX10_codeOf_23
    exact KL2 zFu 0 H locs ls hG hS (lv_sub hl [1, 2, 0] rfl) hw2
  exact hK0 _ _ ls hG hS hl hf
set_option maxRecDepth 100000 in
set_option maxHeartbeats 4000000 in
theorem c_X4_tokenAt (l : Launch) (D : va_G) (aC : Nat → ClassId) (zs : Nat × Nat) (A : Nat → Prop) (nl : zNL) (ad : Nat → Nat → Nat → Nat) (σ : zM) (x1 : Int32) (x2 : Int32) (x3 : Int32) (r : Int32) (σ' : zM)  (hf : f_X4_tokenAt σ x1 x2 x3 = some (r, σ')) : Met l yX4_tokenAt (Cond.code yX4_tokenAt cX4_tokenAt 11 (some .int) :: wsL_law) ({ frames := 1, cells := 0, slots := 0, locals := 25 } : Room) (zP D aC zs zfX A nl ad σ [.ref (ad 4 0 0), .int x1, .int x2, .int x3]) (zQ (some (.int r)) (fun t => zG D aC A nl ad σ' t t.heap ∧ True) A) 0 0 A := by
  refine Met.ofW (cc := cX4_tokenAt) (maxL := 11) (ret := (some .int)) (by decide) rfl ?_
  intro p e s m args below meth c s₁ B hml hv
  obtain ⟨rfl, hG, hZ⟩ := hv
  have hx := B.exec
  have hb := B.bytes
  have hr := B.returns
  have hts : ∀ w ∈ wsL_law, w.before ([.ref (ad 4 0 0), .int x1, .int x2, .int x3] : List Value).toArray s = true := fun w h => (atoms_spec B.pre) w (List.mem_cons_of_mem _ h)
  have hown : s.vm.findClass RX4 = some m.cls := findClass_of_methodNamed B.named
  have hlocks := B.notSynchronized
  have S : zS p m c cX4_tokenAt 11 s ([.ref (ad 4 0 0), .int x1, .int x2, .int x3] : List Value).toArray RX4 := ⟨hx, hb, hml, hown, hts⟩
  have hS : va_S A s.heap s.heap [] := va_S.rf
  have hl := lv_entry ([.ref (ad 4 0 0), .int x1, .int x2, .int x3]) (n := 11) (Nat.le_of_ble_eq_true rfl)
  rw [lg_entry_eq]
  generalize (lg_sl ([.ref (ad 4 0 0), .int x1, .int x2, .int x3]) ++ List.replicate (11 - (lg_sl ([.ref (ad 4 0 0), .int x1, .int x2, .int x3])).length) Slot.unset).toArray = ls at hl ⊢
  have hl : lv_has ls 11 [(0, .ref (ad 4 0 0)), (1, .int x1), (2, .int x2), (3, .int x3)] := hl
  generalize hargs : ([.ref (ad 4 0 0), .int x1, .int x2, .int x3] : List Value).toArray = args at S hts ⊢
  clear hargs
  have KJ177 : ∀ (y5b177 : Int32) (y6b177 : Int32) (y7b177 : Int64)  (σb177 : zM) (H : Heap) (locs : List Loc) (ls : Array Slot), zG D aC A nl ad σb177 s H → va_S A s.heap H locs → lv_has ls 11 [(0, .ref (ad 4 0 0)), (1, .int x1), (2, .int x2), (3, .int x3), (5, .int y5b177), (6, .int y6b177), (7, .long y7b177)] → (f_X4_tokenAt_B177 σb177 x1 x2 x3 y5b177 y6b177 y7b177) = some (r, σ') → zWk p l e ({ frames := 1, cells := 0, slots := 0, locals := 25 } : Room) s m args below meth c A (some (.int r)) (fun t => zG D aC A nl ad σ' t t.heap ∧ True) H locs (F0 m 177 ls []) := by
    intro y5b177 y6b177 y7b177  σb177 H locs ls hG hS hl hf
    unfold f_X4_tokenAt_B177 at hf
    refine lv_iload hx hb dX4_tokenAt_177 (lv_at hl 5 rfl) ?_
    refine lv_iload hx hb dX4_tokenAt_179 (lv_at hl 4 rfl) ?_
    have Kv8 : ∀ (v8 : Int32) (ls : Array Slot), lv_has ls 11 [(0, .ref (ad 4 0 0)), (1, .int x1), (2, .int x2), (3, .int x3), (5, .int y5b177), (6, .int y6b177), (7, .long y7b177)] → (if y6b177 ≤ v8 then (if y5b177 = 0 then ((f_X4_put σb177 x3 3 x1 y7b177).bind fun σ55 => some (y6b177, σ55)) else ((f_X10_codeOf σb177 y7b177).bind fun r36 => (f_X4_put σb177 x3 (if r36 = (-1) then 2 else 1 : Int32) x1 (if r36 = (-1) then y7b177 else r36.toInt64 : Int64)).bind fun σ44 => some (y6b177, σ44))) else ((f_X4_put σb177 x3 5 x1 0).bind fun σ57 => some (y6b177, σ57))) = some (r, σ') → zWk p l e ({ frames := 1, cells := 0, slots := 0, locals := 25 } : Room) s m args below meth c A (some (.int r)) (fun t => zG D aC A nl ad σ' t t.heap ∧ True) H locs (F0 m 191 ls [.int v8, .int y6b177]) := by
      intro v8 ls hl hf
      refine lv_icmp_le (tgt := 205) hx hb dX4_tokenAt_191 (by decide) (fun c34 => ?_) (fun c34 => ?_)
      · have hf := zif_p c34 hf
        refine lv_iload hx hb dX4_tokenAt_205 (lv_at hl 4 rfl) ?_
        refine lv_if_ne (tgt := 222) hx hb dX4_tokenAt_207 (by decide) (fun c35 => ?_) (fun c35 => ?_)
        · have hf := zif_n c35 hf
          refine lv_aload_n hx hb dX4_tokenAt_222 rfl (lv_at hl 0 rfl) ?_
          refine z_get (c0 := 4) (i0 := 0) (k0 := 2) (T := TX4) (v := .ref (ad 10 0 0)) S hG (hZ.2.1 (4, 0) (by decide)) rfl inlX4 (by decide) rfl zw_110 rfl dX4_tokenAt_223 ?_
          refine lv_lload hx hb dX4_tokenAt_226 (lv_at hl 6 rfl) ?_
          obtain ⟨r36, er36, hf⟩ := zbi hf
          refine z_callV (n := 1) (rest := []) (st1 := [.int r36]) (c0 := 10) (i0 := 0) (hZ.2.1 (10, 0) (by decide)) (by rfl) S hG hS hZ (fun _ _ h => h) (c_X10_codeOf l D aC zs A nl ad σb177 y7b177 r36 er36) zw_353 zw_354 zw_355 zw_109 zw_356 (by decide +kernel) ⟨rfl, rfl⟩ ⟨(Nat.le_of_ble_eq_true rfl), (Nat.le_of_ble_eq_true rfl)⟩ hl.1 rfl (by rfl) (by rfl) (Nat.le_of_ble_eq_true rfl) dX4_tokenAt_228 ⟨Nat.zero_le _, Nat.zero_le _⟩ (fun H locs hz37 hG hS => ?_)
          refine lv_istore (lv' := [(9, .int r36), (0, .ref (ad 4 0 0)), (1, .int x1), (2, .int x2), (3, .int x3), (5, .int y5b177), (6, .int y6b177), (7, .long y7b177)]) hx hb dX4_tokenAt_231 hl (by decide) rfl (fun ls hl => ?_)
          refine lv_aload_n hx hb dX4_tokenAt_233 rfl (lv_at hl 1 rfl) ?_
          refine lv_iload_n hx hb dX4_tokenAt_234 rfl (lv_at hl 4 rfl) ?_
          refine lv_iload hx hb dX4_tokenAt_235 (lv_at hl 0 rfl) ?_
          refine lv_iconst (v := (-1)) hx hb dX4_tokenAt_237 (by decide) ?_
          have Kv40 : ∀ (v40 : Int32) (ls : Array Slot), lv_has ls 11 [(9, .int r36), (0, .ref (ad 4 0 0)), (1, .int x1), (2, .int x2), (3, .int x3), (5, .int y5b177), (6, .int y6b177), (7, .long y7b177)] → ((f_X4_put σb177 x3 v40 x1 (if r36 = (-1) then y7b177 else r36.toInt64 : Int64)).bind fun σ51 => some (y6b177, σ51)) = some (r, σ') → zWk p l e ({ frames := 1, cells := 0, slots := 0, locals := 25 } : Room) s m args below meth c A (some (.int r)) (fun t => zG D aC A nl ad σ' t t.heap ∧ True) H locs (F0 m 246 ls [.int v40, .int x3, .ref (ad 4 0 0)]) := by
            intro v40 ls hl hf
            refine lv_iload_n hx hb dX4_tokenAt_246 rfl (lv_at hl 2 rfl) ?_
            refine lv_iload hx hb dX4_tokenAt_247 (lv_at hl 0 rfl) ?_
            refine lv_iconst (v := (-1)) hx hb dX4_tokenAt_249 (by decide) ?_
            have Kv50 : ∀ (v50 : Int64) (ls : Array Slot), lv_has ls 11 [(9, .int r36), (0, .ref (ad 4 0 0)), (1, .int x1), (2, .int x2), (3, .int x3), (5, .int y5b177), (6, .int y6b177), (7, .long y7b177)] → ((f_X4_put σb177 x3 v40 x1 v50).bind fun σ53 => some (y6b177, σ53)) = some (r, σ') → zWk p l e ({ frames := 1, cells := 0, slots := 0, locals := 25 } : Room) s m args below meth c A (some (.int r)) (fun t => zG D aC A nl ad σ' t t.heap ∧ True) H locs (F0 m 261 ls [.long v50, .int x1, .int v40, .int x3, .ref (ad 4 0 0)]) := by
              intro v50 ls hl hf
              obtain ⟨σ53, eσ53, hf⟩ := zbi hf
              refine z_callV (n := 4) (rest := []) (st1 := []) (c0 := 4) (i0 := 0) (hZ.2.1 (4, 0) (by decide)) (by rfl) S hG hS hZ (fun _ _ h => h) (c_X4_put l D aC zs A nl ad σb177 x3 v40 x1 v50 σ53 eσ53) zw_348 zw_349 zw_350 zw_27 zw_351 (by decide +kernel) ⟨rfl, rfl⟩ ⟨(Nat.le_of_ble_eq_true rfl), (Nat.le_of_ble_eq_true rfl)⟩ hl.1 rfl (by rfl) (by rfl) (Nat.le_of_ble_eq_true rfl) dX4_tokenAt_261 ⟨Nat.zero_le _, Nat.zero_le _⟩ (fun H locs hz54 hG hS => ?_)
              refine lv_iload hx hb dX4_tokenAt_264 (lv_at hl 6 rfl) ?_
              obtain ⟨hq1, hq2⟩ := Prod.mk.inj (Option.some.inj hf)
              subst hq1
              subst hq2
              exact z_iret S hG hS hlocks trivial hr dX4_tokenAt_266
            refine lv_icmp_ne (tgt := 258) hx hb dX4_tokenAt_250 (by decide) (fun c49 => ?_) (fun c49 => ?_)
            · rw [if_neg c49] at hf
              refine lv_iload hx hb dX4_tokenAt_258 (lv_at hl 0 rfl) ?_
              refine lv_i2l (v := r36.toInt64) hx hb dX4_tokenAt_260 rfl ?_
              exact Kv50 _ ls hl hf
            · rw [if_pos c49] at hf
              refine lv_lload hx hb dX4_tokenAt_253 (lv_at hl 7 rfl) ?_
              refine lv_goto (tgt := 261) hx hb dX4_tokenAt_255 (by decide) ?_
              exact Kv50 _ ls hl hf
          refine lv_icmp_ne (tgt := 245) hx hb dX4_tokenAt_238 (by decide) (fun c39 => ?_) (fun c39 => ?_)
          · rw [if_neg c39] at hf
            refine lv_iconst (v := 1) hx hb dX4_tokenAt_245 (by decide) ?_
            exact Kv40 _ ls hl hf
          · rw [if_pos c39] at hf
            refine lv_iconst (v := 2) hx hb dX4_tokenAt_241 (by decide) ?_
            refine lv_goto (tgt := 246) hx hb dX4_tokenAt_242 (by decide) ?_
            exact Kv40 _ ls hl hf
        · have hf := zif_p c35 hf
          refine lv_aload_n hx hb dX4_tokenAt_210 rfl (lv_at hl 0 rfl) ?_
          refine lv_iload_n hx hb dX4_tokenAt_211 rfl (lv_at hl 3 rfl) ?_
          refine lv_iconst (v := 3) hx hb dX4_tokenAt_212 (by decide) ?_
          refine lv_iload_n hx hb dX4_tokenAt_213 rfl (lv_at hl 1 rfl) ?_
          refine lv_lload hx hb dX4_tokenAt_214 (lv_at hl 6 rfl) ?_
          obtain ⟨σ55, eσ55, hf⟩ := zbi hf
          refine z_callV (n := 4) (rest := []) (st1 := []) (c0 := 4) (i0 := 0) (hZ.2.1 (4, 0) (by decide)) (by rfl) S hG hS hZ (fun _ _ h => h) (c_X4_put l D aC zs A nl ad σb177 x3 3 x1 y7b177 σ55 eσ55) zw_348 zw_349 zw_350 zw_27 zw_351 (by decide +kernel) ⟨rfl, rfl⟩ ⟨(Nat.le_of_ble_eq_true rfl), (Nat.le_of_ble_eq_true rfl)⟩ hl.1 rfl (by rfl) (by rfl) (Nat.le_of_ble_eq_true rfl) dX4_tokenAt_216 ⟨Nat.zero_le _, Nat.zero_le _⟩ (fun H locs hz56 hG hS => ?_)
          refine lv_goto (tgt := 264) hx hb dX4_tokenAt_219 (by decide) ?_
          refine lv_iload hx hb dX4_tokenAt_264 (lv_at hl 5 rfl) ?_
          obtain ⟨hq1, hq2⟩ := Prod.mk.inj (Option.some.inj hf)
          subst hq1
          subst hq2
          exact z_iret S hG hS hlocks trivial hr dX4_tokenAt_266
      · have hf := zif_n c34 hf
        refine lv_aload_n hx hb dX4_tokenAt_194 rfl (lv_at hl 0 rfl) ?_
        refine lv_iload_n hx hb dX4_tokenAt_195 rfl (lv_at hl 3 rfl) ?_
        refine lv_iconst (v := 5) hx hb dX4_tokenAt_196 (by decide) ?_
        refine lv_iload_n hx hb dX4_tokenAt_197 rfl (lv_at hl 1 rfl) ?_
        refine lv_lconst (v := 0) hx hb dX4_tokenAt_198 (by decide) ?_
        obtain ⟨σ57, eσ57, hf⟩ := zbi hf
        refine z_callV (n := 4) (rest := []) (st1 := []) (c0 := 4) (i0 := 0) (hZ.2.1 (4, 0) (by decide)) (by rfl) S hG hS hZ (fun _ _ h => h) (c_X4_put l D aC zs A nl ad σb177 x3 5 x1 0 σ57 eσ57) zw_348 zw_349 zw_350 zw_27 zw_351 (by decide +kernel) ⟨rfl, rfl⟩ ⟨(Nat.le_of_ble_eq_true rfl), (Nat.le_of_ble_eq_true rfl)⟩ hl.1 rfl (by rfl) (by rfl) (Nat.le_of_ble_eq_true rfl) dX4_tokenAt_199 ⟨Nat.zero_le _, Nat.zero_le _⟩ (fun H locs hz58 hG hS => ?_)
        refine lv_goto (tgt := 264) hx hb dX4_tokenAt_202 (by decide) ?_
        refine lv_iload hx hb dX4_tokenAt_264 (lv_at hl 5 rfl) ?_
        obtain ⟨hq1, hq2⟩ := Prod.mk.inj (Option.some.inj hf)
        subst hq1
        subst hq2
        exact z_iret S hG hS hlocks trivial hr dX4_tokenAt_266
    refine lv_if_eq (tgt := 189) hx hb dX4_tokenAt_181 (by decide) (fun c7 => ?_) (fun c7 => ?_)
    · rw [if_pos c7] at hf
      refine lv_bipush (v := 6) hx hb dX4_tokenAt_189 (by decide) ?_
      exact Kv8 _ ls hl hf
    · rw [if_neg c7] at hf
      refine lv_bipush (v := 8) hx hb dX4_tokenAt_184 (by decide) ?_
      refine lv_goto (tgt := 191) hx hb dX4_tokenAt_186 (by decide) ?_
      exact Kv8 _ ls hl hf
  have KJ54 : ∀ (y5b54 : Int32)  (σb54 : zM) (H : Heap) (locs : List Loc) (ls : Array Slot), zG D aC A nl ad σb54 s H → va_S A s.heap H locs → lv_has ls 11 [(0, .ref (ad 4 0 0)), (1, .int x1), (2, .int x2), (3, .int x3), (5, .int y5b54)] → (f_X4_tokenAt_B54 σb54 x1 x2 x3 y5b54) = some (r, σ') → zWk p l e ({ frames := 1, cells := 0, slots := 0, locals := 25 } : Room) s m args below meth c A (some (.int r)) (fun t => zG D aC A nl ad σ' t t.heap ∧ True) H locs (F0 m 54 ls []) := by
    intro y5b54  σb54 H locs ls hG hS hl hf
    unfold f_X4_tokenAt_B54 at hf
    refine lv_iconst (v := 0) hx hb dX4_tokenAt_54 (by decide) ?_
    refine lv_istore (lv' := [(6, .int 0), (0, .ref (ad 4 0 0)), (1, .int x1), (2, .int x2), (3, .int x3), (5, .int y5b54)]) hx hb dX4_tokenAt_55 hl (by decide) rfl (fun ls hl => ?_)
    refine lv_lconst (v := 0) hx hb dX4_tokenAt_57 (by decide) ?_
    refine lv_lstore (lv' := [(7, .long 0), (6, .int 0), (0, .ref (ad 4 0 0)), (1, .int x1), (2, .int x2), (3, .int x3), (5, .int y5b54)]) hx hb dX4_tokenAt_58 hl (by decide) rfl (fun ls hl => ?_)
    refine lv_iload_n hx hb dX4_tokenAt_60 rfl (lv_at hl 3 rfl) ?_
    refine lv_istore (lv' := [(9, .int x1), (7, .long 0), (6, .int 0), (0, .ref (ad 4 0 0)), (1, .int x1), (2, .int x2), (3, .int x3), (5, .int y5b54)]) hx hb dX4_tokenAt_61 hl (by decide) rfl (fun ls hl => ?_)
    obtain ⟨t63, hw63, hfo63⟩ := zbi hf
    have KL63 : ∀ (n : Nat) (y6l63 : Int32) (y7l63 : Int64) (y9l63 : Int32) (H : Heap) (locs : List Loc) (ls : Array Slot), zG D aC A nl ad σb54 s H → va_S A s.heap H locs → lv_has ls 11 [(0, .ref (ad 4 0 0)), (1, .int x1), (2, .int x2), (3, .int x3), (5, .int y5b54), (6, .int y6l63), (7, .long y7l63), (9, .int y9l63)] → zwh (fun (q : (Int32 × Int64 × Int32)) => f_X4_tokenAt_L63 σb54 x1 x2 x3 y5b54 q.1 q.2.1 q.2.2) n (y6l63, y7l63, y9l63) = some t63 → zWk p l e ({ frames := 1, cells := 0, slots := 0, locals := 25 } : Room) s m args below meth c A (some (.int r)) (fun t => zG D aC A nl ad σ' t t.heap ∧ True) H locs (F0 m 63 ls []) := by
      intro n
      induction n with
      | zero =>
        intro y6l63 y7l63 y9l63 H locs ls hG hS hl hw
        exact (zwh_0 hw).elim
      | succ n ih63 =>
        intro y6l63 y7l63 y9l63 H locs ls hG hS hl hw
        obtain ⟨rr63, hf, hk63⟩ := zwh_u hw
        have hf : f_X4_tokenAt_L63 σb54 x1 x2 x3 y5b54 y6l63 y7l63 y9l63 = some rr63 := hf
        unfold f_X4_tokenAt_L63 at hf
        have KJ171_63 : ∀ (y6b171 : Int32) (y7b171 : Int64) (y9b171 : Int32)   (H : Heap) (locs : List Loc) (ls : Array Slot), zG D aC A nl ad σb54 s H → va_S A s.heap H locs → lv_has ls 11 [(0, .ref (ad 4 0 0)), (1, .int x1), (2, .int x2), (3, .int x3), (5, .int y5b54), (6, .int y6b171), (7, .long y7b171), (9, .int y9b171)] → (f_X4_tokenAt_B171_63 σb54 x1 x2 x3 y5b54 y6b171 y7b171 y9b171) = some rr63 → zWk p l e ({ frames := 1, cells := 0, slots := 0, locals := 25 } : Room) s m args below meth c A (some (.int r)) (fun t => zG D aC A nl ad σ' t t.heap ∧ True) H locs (F0 m 171 ls []) := by
          intro y6b171 y7b171 y9b171   H locs ls hG hS hl hf
          unfold f_X4_tokenAt_B171_63 at hf
          refine lv_iinc (v := (y9b171 + 1)) (lv' := [(9, .int (y9b171 + 1)), (0, .ref (ad 4 0 0)), (1, .int x1), (2, .int x2), (3, .int x3), (5, .int y5b54), (6, .int y6b171), (7, .long y7b171)]) hx hb dX4_tokenAt_171 hl (k := 7) rfl rfl (by decide) rfl (fun ls hl => ?_)
          refine lv_goto (tgt := 63) hx hb dX4_tokenAt_174 (by decide) ?_
          cases hf
          exact ih63 y6b171 y7b171 (y9b171 + 1) H locs ls hG hS (lv_sub hl [1, 2, 3, 4, 5, 6, 7, 0] rfl) hk63
        have KJ128_63 : ∀ (y6b128 : Int32) (y7b128 : Int64) (y9b128 : Int32) (y10b128 : Int32)   (H : Heap) (locs : List Loc) (ls : Array Slot), zG D aC A nl ad σb54 s H → va_S A s.heap H locs → lv_has ls 11 [(0, .ref (ad 4 0 0)), (1, .int x1), (2, .int x2), (3, .int x3), (5, .int y5b54), (6, .int y6b128), (7, .long y7b128), (9, .int y9b128), (10, .int y10b128)] → (f_X4_tokenAt_B128_63 σb54 x1 x2 x3 y5b54 y6b128 y7b128 y9b128 y10b128) = some rr63 → zWk p l e ({ frames := 1, cells := 0, slots := 0, locals := 25 } : Room) s m args below meth c A (some (.int r)) (fun t => zG D aC A nl ad σ' t t.heap ∧ True) H locs (F0 m 128 ls []) := by
          intro y6b128 y7b128 y9b128 y10b128   H locs ls hG hS hl hf
          unfold f_X4_tokenAt_B128_63 at hf
          refine lv_iload hx hb dX4_tokenAt_128 (lv_at hl 4 rfl) ?_
          refine lv_if_ne (tgt := 171) hx hb dX4_tokenAt_130 (by decide) (fun c78 => ?_) (fun c78 => ?_)
          · have hf := zif_n c78 hf
            exact KJ171_63 y6b128 y7b128 y9b128 H locs ls hG hS (lv_sub hl [0, 1, 2, 3, 4, 5, 6, 7] rfl) hf
          · have hf := zif_p c78 hf
            refine lv_iload hx hb dX4_tokenAt_133 (lv_at hl 8 rfl) ?_
            refine z_callS (n := 1) (rest := []) (st1 := [.int (f_X4_isDigit y10b128)]) S hG hS hZ (fun _ _ h => h) (c_X4_isDigit l D aC zs A nl ad σb54 y10b128 (f_X4_isDigit y10b128) rfl) zw_342 zw_343 zw_27 zw_344 (by decide +kernel) ⟨rfl, rfl⟩ ⟨(Nat.le_of_ble_eq_true rfl), (Nat.le_of_ble_eq_true rfl)⟩ hl.1 rfl (by rfl) (by rfl) (Nat.le_of_ble_eq_true rfl) dX4_tokenAt_135 ⟨Nat.zero_le _, Nat.zero_le _⟩ (fun H locs hz79 hG hS => ?_)
            refine lv_if_eq (tgt := 171) hx hb dX4_tokenAt_138 (by decide) (fun c80 => ?_) (fun c80 => ?_)
            · have hf := zif_p c80 hf
              exact KJ171_63 y6b128 y7b128 y9b128 H locs ls hG hS (lv_sub hl [0, 1, 2, 3, 4, 5, 6, 7] rfl) hf
            · have hf := zif_n c80 hf
              refine lv_iload hx hb dX4_tokenAt_141 (lv_at hl 5 rfl) ?_
              refine lv_bipush (v := 6) hx hb dX4_tokenAt_143 (by decide) ?_
              have Kv83 : ∀ (v83 : Int64) (ls : Array Slot), lv_has ls 11 [(0, .ref (ad 4 0 0)), (1, .int x1), (2, .int x2), (3, .int x3), (5, .int y5b54), (6, .int y6b128), (7, .long y7b128), (9, .int y9b128), (10, .int y10b128)] → (f_X4_tokenAt_B171_63 σb54 x1 x2 x3 y5b54 (y6b128 + 1) v83 y9b128) = some rr63 → zWk p l e ({ frames := 1, cells := 0, slots := 0, locals := 25 } : Room) s m args below meth c A (some (.int r)) (fun t => zG D aC A nl ad σ' t t.heap ∧ True) H locs (F0 m 166 ls [.long v83]) := by
                intro v83 ls hl hf
                refine lv_lstore (lv' := [(7, .long v83), (0, .ref (ad 4 0 0)), (1, .int x1), (2, .int x2), (3, .int x3), (5, .int y5b54), (6, .int y6b128), (9, .int y9b128), (10, .int y10b128)]) hx hb dX4_tokenAt_166 hl (by decide) rfl (fun ls hl => ?_)
                refine lv_iinc (v := (y6b128 + 1)) (lv' := [(6, .int (y6b128 + 1)), (7, .long v83), (0, .ref (ad 4 0 0)), (1, .int x1), (2, .int x2), (3, .int x3), (5, .int y5b54), (9, .int y9b128), (10, .int y10b128)]) hx hb dX4_tokenAt_168 hl (k := 6) rfl rfl (by decide) rfl (fun ls hl => ?_)
                exact KJ171_63 (y6b128 + 1) v83 y9b128 H locs ls hG hS (lv_sub hl [2, 3, 4, 5, 6, 0, 1, 7] rfl) hf
              refine lv_icmp_ge (tgt := 165) hx hb dX4_tokenAt_145 (by decide) (fun c82 => ?_) (fun c82 => ?_)
              · rw [if_pos c82] at hf
                refine lv_lconst (v := 0) hx hb dX4_tokenAt_165 (by decide) ?_
                exact Kv83 _ ls hl hf
              · rw [if_neg c82] at hf
                refine lv_lload hx hb dX4_tokenAt_148 (lv_at hl 6 rfl) ?_
                refine lv_ldc2 (v := 10) hx hb hown (hts _ zw_337) dX4_tokenAt_150 ?_
                refine lv_lmul hx hb dX4_tokenAt_153 ?_
                refine lv_iload hx hb dX4_tokenAt_154 (lv_at hl 8 rfl) ?_
                refine lv_i2l (v := y10b128.toInt64) hx hb dX4_tokenAt_156 rfl ?_
                refine lv_ladd hx hb dX4_tokenAt_157 ?_
                refine lv_ldc2 (v := 48) hx hb hown (hts _ zw_338) dX4_tokenAt_158 ?_
                refine lv_lsub hx hb dX4_tokenAt_161 ?_
                refine lv_goto (tgt := 166) hx hb dX4_tokenAt_162 (by decide) ?_
                exact Kv83 _ ls hl hf
        have KJ120_63 : ∀ (y6b120 : Int32) (y9b120 : Int32) (t0b120 : Int64)   (H : Heap) (locs : List Loc) (ls : Array Slot), zG D aC A nl ad σb54 s H → va_S A s.heap H locs → lv_has ls 11 [(0, .ref (ad 4 0 0)), (1, .int x1), (2, .int x2), (3, .int x3), (5, .int y5b54), (6, .int y6b120), (9, .int y9b120)] → (f_X4_tokenAt_B120_63 σb54 x1 x2 x3 y5b54 y6b120 y9b120 t0b120) = some rr63 → zWk p l e ({ frames := 1, cells := 0, slots := 0, locals := 25 } : Room) s m args below meth c A (some (.int r)) (fun t => zG D aC A nl ad σ' t t.heap ∧ True) H locs (F0 m 120 ls [.long t0b120]) := by
          intro y6b120 y9b120 t0b120   H locs ls hG hS hl hf
          unfold f_X4_tokenAt_B120_63 at hf
          refine lv_lstore (lv' := [(7, .long t0b120), (0, .ref (ad 4 0 0)), (1, .int x1), (2, .int x2), (3, .int x3), (5, .int y5b54), (6, .int y6b120), (9, .int y9b120)]) hx hb dX4_tokenAt_120 hl (by decide) rfl (fun ls hl => ?_)
          refine lv_iinc (v := (y6b120 + 1)) (lv' := [(6, .int (y6b120 + 1)), (7, .long t0b120), (0, .ref (ad 4 0 0)), (1, .int x1), (2, .int x2), (3, .int x3), (5, .int y5b54), (9, .int y9b120)]) hx hb dX4_tokenAt_122 hl (k := 6) rfl rfl (by decide) rfl (fun ls hl => ?_)
          refine lv_goto (tgt := 171) hx hb dX4_tokenAt_125 (by decide) ?_
          exact KJ171_63 (y6b120 + 1) t0b120 y9b120 H locs ls hG hS (lv_sub hl [2, 3, 4, 5, 6, 0, 1, 7] rfl) hf
        refine lv_iload hx hb dX4_tokenAt_63 (lv_at hl 7 rfl) ?_
        refine lv_iload_n hx hb dX4_tokenAt_65 rfl (lv_at hl 2 rfl) ?_
        refine lv_icmp_ge (tgt := 177) hx hb dX4_tokenAt_66 (by decide) (fun c73 => ?_) (fun c73 => ?_)
        · have hf := zif_p c73 hf
          cases hf
          have hk63 : ((y6l63, y7l63) : (Int32 × Int64)) = t63 := hk63
          have hf := hfo63
          rw [← hk63] at hf
          have hf : (f_X4_tokenAt_B177 σb54 x1 x2 x3 y5b54 y6l63 y7l63) = some (r, σ') := hf
          exact KJ177 y5b54 y6l63 y7l63 σb54 H locs ls hG hS (lv_sub hl [0, 1, 2, 3, 4, 5, 6] rfl) hf
        · have hf := zif_n c73 hf
          refine lv_iload hx hb dX4_tokenAt_69 (lv_at hl 7 rfl) ?_
          refine lv_iload_n hx hb dX4_tokenAt_71 rfl (lv_at hl 1 rfl) ?_
          refine lv_isub hx hb dX4_tokenAt_72 ?_
          refine lv_iload hx hb dX4_tokenAt_73 (lv_at hl 5 rfl) ?_
          refine lv_icmp_ne (tgt := 177) hx hb dX4_tokenAt_75 (by decide) (fun c74 => ?_) (fun c74 => ?_)
          · have hf := zif_n c74 hf
            cases hf
            have hk63 : ((y6l63, y7l63) : (Int32 × Int64)) = t63 := hk63
            have hf := hfo63
            rw [← hk63] at hf
            have hf : (f_X4_tokenAt_B177 σb54 x1 x2 x3 y5b54 y6l63 y7l63) = some (r, σ') := hf
            exact KJ177 y5b54 y6l63 y7l63 σb54 H locs ls hG hS (lv_sub hl [0, 1, 2, 3, 4, 5, 6] rfl) hf
          · have hf := zif_p c74 hf
            refine lv_aload_n hx hb dX4_tokenAt_78 rfl (lv_at hl 0 rfl) ?_
            refine z_get (c0 := 4) (i0 := 0) (k0 := 0) (T := TX4) (v := .ref (ad 9 0 0)) S hG (hZ.2.1 (4, 0) (by decide)) rfl inlX4 (by decide) rfl zw_120 rfl dX4_tokenAt_79 ?_
            refine lv_iload hx hb dX4_tokenAt_82 (lv_at hl 7 rfl) ?_
            obtain ⟨r75, er75, hf⟩ := zbi hf
            refine z_callV (n := 1) (rest := []) (st1 := [.int r75]) (c0 := 9) (i0 := 0) (hZ.2.1 (9, 0) (by decide)) (by rfl) S hG hS hZ (fun _ _ h => h) (c_X9_at l D aC zs A nl ad σb54 y9l63 r75 er75) zw_326 zw_327 zw_328 zw_15 zw_329 (by decide +kernel) ⟨rfl, rfl⟩ ⟨(Nat.le_of_ble_eq_true rfl), (Nat.le_of_ble_eq_true rfl)⟩ hl.1 rfl (by rfl) (by rfl) (Nat.le_of_ble_eq_true rfl) dX4_tokenAt_84 ⟨Nat.zero_le _, Nat.zero_le _⟩ (fun H locs hz76 hG hS => ?_)
            refine lv_istore (lv' := [(10, .int r75), (0, .ref (ad 4 0 0)), (1, .int x1), (2, .int x2), (3, .int x3), (5, .int y5b54), (6, .int y6l63), (7, .long y7l63), (9, .int y9l63)]) hx hb dX4_tokenAt_87 hl (by decide) rfl (fun ls hl => ?_)
            refine lv_iload hx hb dX4_tokenAt_89 (lv_at hl 5 rfl) ?_
            refine lv_if_eq (tgt := 128) hx hb dX4_tokenAt_91 (by decide) (fun c77 => ?_) (fun c77 => ?_)
            · have hf := zif_p c77 hf
              exact KJ128_63 y6l63 y7l63 y9l63 r75 H locs ls hG hS (lv_sub hl [1, 2, 3, 4, 5, 6, 7, 8, 0] rfl) hf
            · have hf := zif_n c77 hf
              refine lv_iload hx hb dX4_tokenAt_94 (lv_at hl 0 rfl) ?_
              refine z_callS (n := 1) (rest := []) (st1 := [.int (f_X10_isLetter r75)]) S hG hS hZ (fun _ _ h => h) (c_X10_isLetter l D aC zs A nl ad σb54 r75 (f_X10_isLetter r75) rfl) zw_339 zw_340 zw_109 zw_341 (by decide +kernel) ⟨rfl, rfl⟩ ⟨(Nat.le_of_ble_eq_true rfl), (Nat.le_of_ble_eq_true rfl)⟩ hl.1 rfl (by rfl) (by rfl) (Nat.le_of_ble_eq_true rfl) dX4_tokenAt_96 ⟨Nat.zero_le _, Nat.zero_le _⟩ (fun H locs hz84 hG hS => ?_)
              refine lv_if_eq (tgt := 128) hx hb dX4_tokenAt_99 (by decide) (fun c85 => ?_) (fun c85 => ?_)
              · have hf := zif_p c85 hf
                exact KJ128_63 y6l63 y7l63 y9l63 r75 H locs ls hG hS (lv_sub hl [1, 2, 3, 4, 5, 6, 7, 8, 0] rfl) hf
              · have hf := zif_n c85 hf
                refine lv_iload hx hb dX4_tokenAt_102 (lv_at hl 6 rfl) ?_
                refine lv_bipush (v := 8) hx hb dX4_tokenAt_104 (by decide) ?_
                refine lv_icmp_ge (tgt := 119) hx hb dX4_tokenAt_106 (by decide) (fun c86 => ?_) (fun c86 => ?_)
                · have hf := zif_p c86 hf
                  refine lv_lconst (v := 0) hx hb dX4_tokenAt_119 (by decide) ?_
                  exact KJ120_63 y6l63 y9l63 0 H locs ls hG hS (lv_sub hl [1, 2, 3, 4, 5, 6, 8] rfl) hf
                · have hf := zif_n c86 hf
                  refine lv_lload hx hb dX4_tokenAt_109 (lv_at hl 7 rfl) ?_
                  refine lv_iload hx hb dX4_tokenAt_111 (lv_at hl 0 rfl) ?_
                  refine z_callS (n := 2) (rest := []) (st1 := [.long (f_X10_join y7l63 r75)]) S hG hS hZ (fun _ _ h => h) (c_X10_join l D aC zs zfX A nl ad σb54 y7l63 r75 (f_X10_join y7l63 r75) rfl) zw_352 zw_181 zw_109 zw_182 (by decide +kernel) ⟨rfl, rfl⟩ ⟨(Nat.le_of_ble_eq_true rfl), (Nat.le_of_ble_eq_true rfl)⟩ hl.1 rfl (by rfl) (by rfl) (Nat.le_of_ble_eq_true rfl) dX4_tokenAt_113 ⟨Nat.zero_le _, Nat.zero_le _⟩ (fun H locs hz87 hG hS => ?_)
                  refine lv_goto (tgt := 120) hx hb dX4_tokenAt_116 (by decide) ?_
                  exact KJ120_63 y6l63 y9l63 (f_X10_join y7l63 r75) H locs ls hG hS (lv_sub hl [1, 2, 3, 4, 5, 6, 8] rfl) hf
    exact KL63 zFu 0 0 x1 H locs ls hG hS (lv_sub hl [3, 4, 5, 6, 7, 2, 1, 0] rfl) hw63
  have hK0 : ∀ (H : Heap) (locs : List Loc) (ls : Array Slot), zG D aC A nl ad σ s H → va_S A s.heap H locs → lv_has ls 11 [(0, .ref (ad 4 0 0)), (1, .int x1), (2, .int x2), (3, .int x3)] → f_X4_tokenAt σ x1 x2 x3 = some (r, σ') → zWk p l e ({ frames := 1, cells := 0, slots := 0, locals := 25 } : Room) s m args below meth c A (some (.int r)) (fun t => zG D aC A nl ad σ' t t.heap ∧ True) H locs (F0 m 0 ls []) := by
    intro H locs ls hG hS hl hf
    unfold f_X4_tokenAt at hf
    refine lv_aload_n hx hb dX4_tokenAt_0 rfl (lv_at hl 0 rfl) ?_
    refine z_get (c0 := 4) (i0 := 0) (k0 := 0) (T := TX4) (v := .ref (ad 9 0 0)) S hG (hZ.2.1 (4, 0) (by decide)) rfl inlX4 (by decide) rfl zw_120 rfl dX4_tokenAt_1 ?_
    refine lv_iload_n hx hb dX4_tokenAt_4 rfl (lv_at hl 1 rfl) ?_
    obtain ⟨r1, er1, hf⟩ := zbi hf
    refine z_callV (n := 1) (rest := []) (st1 := [.int r1]) (c0 := 9) (i0 := 0) (hZ.2.1 (9, 0) (by decide)) (by rfl) S hG hS hZ (fun _ _ h => h) (c_X9_at l D aC zs A nl ad σ x1 r1 er1) zw_326 zw_327 zw_328 zw_15 zw_329 (by decide +kernel) ⟨rfl, rfl⟩ ⟨(Nat.le_of_ble_eq_true rfl), (Nat.le_of_ble_eq_true rfl)⟩ hl.1 rfl (by rfl) (by rfl) (Nat.le_of_ble_eq_true rfl) dX4_tokenAt_5 ⟨Nat.zero_le _, Nat.zero_le _⟩ (fun H locs hz2 hG hS => ?_)
    refine lv_istore (lv' := [(4, .int r1), (0, .ref (ad 4 0 0)), (1, .int x1), (2, .int x2), (3, .int x3)]) hx hb dX4_tokenAt_8 hl (by decide) rfl (fun ls hl => ?_)
    refine lv_iload hx hb dX4_tokenAt_10 (lv_at hl 0 rfl) ?_
    refine z_callS (n := 1) (rest := []) (st1 := [.int (f_X10_isLetter r1)]) S hG hS hZ (fun _ _ h => h) (c_X10_isLetter l D aC zs A nl ad σ r1 (f_X10_isLetter r1) rfl) zw_339 zw_340 zw_109 zw_341 (by decide +kernel) ⟨rfl, rfl⟩ ⟨(Nat.le_of_ble_eq_true rfl), (Nat.le_of_ble_eq_true rfl)⟩ hl.1 rfl (by rfl) (by rfl) (Nat.le_of_ble_eq_true rfl) dX4_tokenAt_12 ⟨Nat.zero_le _, Nat.zero_le _⟩ (fun H locs hz3 hG hS => ?_)
    refine lv_istore (lv' := [(5, .int (f_X10_isLetter r1)), (4, .int r1), (0, .ref (ad 4 0 0)), (1, .int x1), (2, .int x2), (3, .int x3)]) hx hb dX4_tokenAt_15 hl (by decide) rfl (fun ls hl => ?_)
    refine lv_iload hx hb dX4_tokenAt_17 (lv_at hl 0 rfl) ?_
    refine lv_if_ne (tgt := 54) hx hb dX4_tokenAt_19 (by decide) (fun c4 => ?_) (fun c4 => ?_)
    · have hf := zif_n c4 hf
      exact KJ54 (f_X10_isLetter r1) σ H locs ls hG hS (lv_sub hl [2, 3, 4, 5, 0] rfl) hf
    · have hf := zif_p c4 hf
      refine lv_iload hx hb dX4_tokenAt_22 (lv_at hl 1 rfl) ?_
      refine z_callS (n := 1) (rest := []) (st1 := [.int (f_X4_isDigit r1)]) S hG hS hZ (fun _ _ h => h) (c_X4_isDigit l D aC zs A nl ad σ r1 (f_X4_isDigit r1) rfl) zw_342 zw_343 zw_27 zw_344 (by decide +kernel) ⟨rfl, rfl⟩ ⟨(Nat.le_of_ble_eq_true rfl), (Nat.le_of_ble_eq_true rfl)⟩ hl.1 rfl (by rfl) (by rfl) (Nat.le_of_ble_eq_true rfl) dX4_tokenAt_24 ⟨Nat.zero_le _, Nat.zero_le _⟩ (fun H locs hz88 hG hS => ?_)
      refine lv_if_ne (tgt := 54) hx hb dX4_tokenAt_27 (by decide) (fun c89 => ?_) (fun c89 => ?_)
      · have hf := zif_n c89 hf
        exact KJ54 (f_X10_isLetter r1) σ H locs ls hG hS (lv_sub hl [2, 3, 4, 5, 0] rfl) hf
      · have hf := zif_p c89 hf
        refine lv_aload_n hx hb dX4_tokenAt_30 rfl (lv_at hl 2 rfl) ?_
        refine lv_iload_n hx hb dX4_tokenAt_31 rfl (lv_at hl 5 rfl) ?_
        refine lv_iload hx hb dX4_tokenAt_32 (lv_at hl 1 rfl) ?_
        refine z_callS (n := 1) (rest := [.int x3, .ref (ad 4 0 0)]) (st1 := [.int (f_X4_isKnownSign r1), .int x3, .ref (ad 4 0 0)]) S hG hS hZ (fun _ _ h => h) (c_X4_isKnownSign l D aC zs A nl ad σ r1 (f_X4_isKnownSign r1) rfl) zw_345 zw_346 zw_27 zw_347 (by decide +kernel) ⟨rfl, rfl⟩ ⟨(Nat.le_of_ble_eq_true rfl), (Nat.le_of_ble_eq_true rfl)⟩ hl.1 rfl (by rfl) (by rfl) (Nat.le_of_ble_eq_true rfl) dX4_tokenAt_34 ⟨Nat.zero_le _, Nat.zero_le _⟩ (fun H locs hz90 hG hS => ?_)
        have Kv93 : ∀ (v93 : Int32) (ls : Array Slot), lv_has ls 11 [(5, .int (f_X10_isLetter r1)), (4, .int r1), (0, .ref (ad 4 0 0)), (1, .int x1), (2, .int x2), (3, .int x3)] → ((f_X4_put σ x3 v93 x1 r1.toInt64).bind fun σ96 => some (1, σ96)) = some (r, σ') → zWk p l e ({ frames := 1, cells := 0, slots := 0, locals := 25 } : Room) s m args below meth c A (some (.int r)) (fun t => zG D aC A nl ad σ' t t.heap ∧ True) H locs (F0 m 45 ls [.int v93, .int x3, .ref (ad 4 0 0)]) := by
          intro v93 ls hl hf
          refine lv_iload_n hx hb dX4_tokenAt_45 rfl (lv_at hl 3 rfl) ?_
          refine lv_iload hx hb dX4_tokenAt_46 (lv_at hl 1 rfl) ?_
          refine lv_i2l (v := r1.toInt64) hx hb dX4_tokenAt_48 rfl ?_
          obtain ⟨σ96, eσ96, hf⟩ := zbi hf
          refine z_callV (n := 4) (rest := []) (st1 := []) (c0 := 4) (i0 := 0) (hZ.2.1 (4, 0) (by decide)) (by rfl) S hG hS hZ (fun _ _ h => h) (c_X4_put l D aC zs A nl ad σ x3 v93 x1 r1.toInt64 σ96 eσ96) zw_348 zw_349 zw_350 zw_27 zw_351 (by decide +kernel) ⟨rfl, rfl⟩ ⟨(Nat.le_of_ble_eq_true rfl), (Nat.le_of_ble_eq_true rfl)⟩ hl.1 rfl (by rfl) (by rfl) (Nat.le_of_ble_eq_true rfl) dX4_tokenAt_49 ⟨Nat.zero_le _, Nat.zero_le _⟩ (fun H locs hz97 hG hS => ?_)
          refine lv_iconst (v := 1) hx hb dX4_tokenAt_52 (by decide) ?_
          obtain ⟨hq1, hq2⟩ := Prod.mk.inj (Option.some.inj hf)
          subst hq1
          subst hq2
          exact z_iret S hG hS hlocks trivial hr dX4_tokenAt_53
        refine lv_if_eq (tgt := 44) hx hb dX4_tokenAt_37 (by decide) (fun c92 => ?_) (fun c92 => ?_)
        · rw [if_pos c92] at hf
          refine lv_iconst (v := 5) hx hb dX4_tokenAt_44 (by decide) ?_
          exact Kv93 _ ls hl hf
        · rw [if_neg c92] at hf
          refine lv_iconst (v := 4) hx hb dX4_tokenAt_40 (by decide) ?_
          refine lv_goto (tgt := 45) hx hb dX4_tokenAt_41 (by decide) ?_
          exact Kv93 _ ls hl hf
  exact hK0 _ _ ls hG hS hl hf
set_option maxRecDepth 100000 in
set_option maxHeartbeats 4000000 in
theorem c_X4_split (l : Launch) (D : va_G) (aC : Nat → ClassId) (zs : Nat × Nat) (A : Nat → Prop) (nl : zNL) (ad : Nat → Nat → Nat → Nat) (σ : zM) (x1 : Int32)  (σ' : zM)  (hf : f_X4_split σ x1 = some σ') : Met l yX4_split (Cond.code yX4_split cX4_split 5 none :: wsL_law) ({ frames := 2, cells := 0, slots := 0, locals := 55 } : Room) (zP D aC zs zfX A nl ad σ [.ref (ad 4 0 0), .int x1]) (zQ none (fun t => zG D aC A nl ad σ' t t.heap ∧ True) A) 0 0 A := by
  refine Met.ofW (cc := cX4_split) (maxL := 5) (ret := none) (by decide) rfl ?_
  intro p e s m args below meth c s₁ B hml hv
  obtain ⟨rfl, hG, hZ⟩ := hv
  have hx := B.exec
  have hb := B.bytes
  have hr := B.returns
  have hts : ∀ w ∈ wsL_law, w.before ([.ref (ad 4 0 0), .int x1] : List Value).toArray s = true := fun w h => (atoms_spec B.pre) w (List.mem_cons_of_mem _ h)
  have hown : s.vm.findClass RX4 = some m.cls := findClass_of_methodNamed B.named
  have hlocks := B.notSynchronized
  have S : zS p m c cX4_split 5 s ([.ref (ad 4 0 0), .int x1] : List Value).toArray RX4 := ⟨hx, hb, hml, hown, hts⟩
  have hS : va_S A s.heap s.heap [] := va_S.rf
  have hl := lv_entry ([.ref (ad 4 0 0), .int x1]) (n := 5) (Nat.le_of_ble_eq_true rfl)
  rw [lg_entry_eq]
  generalize (lg_sl ([.ref (ad 4 0 0), .int x1]) ++ List.replicate (5 - (lg_sl ([.ref (ad 4 0 0), .int x1])).length) Slot.unset).toArray = ls at hl ⊢
  have hl : lv_has ls 5 [(0, .ref (ad 4 0 0)), (1, .int x1)] := hl
  generalize hargs : ([.ref (ad 4 0 0), .int x1] : List Value).toArray = args at S hts ⊢
  clear hargs
  have KJ62 : ∀ (y3b62 : Int32)  (σb62 : zM) (H : Heap) (locs : List Loc) (ls : Array Slot), zG D aC A nl ad σb62 s H → va_S A s.heap H locs → lv_has ls 5 [(0, .ref (ad 4 0 0)), (1, .int x1), (3, .int y3b62)] → (f_X4_split_B62 σb62 x1 y3b62) = some σ' → zWk p l e ({ frames := 2, cells := 0, slots := 0, locals := 55 } : Room) s m args below meth c A none (fun t => zG D aC A nl ad σ' t t.heap ∧ True) H locs (F0 m 62 ls []) := by
    intro y3b62  σb62 H locs ls hG hS hl hf
    unfold f_X4_split_B62 at hf
    refine lv_aload_n hx hb dX4_split_62 rfl (lv_at hl 0 rfl) ?_
    refine lv_iload_n hx hb dX4_split_63 rfl (lv_at hl 2 rfl) ?_
    refine lv_iconst (v := 0) hx hb dX4_split_64 (by decide) ?_
    refine lv_iload_n hx hb dX4_split_65 rfl (lv_at hl 1 rfl) ?_
    refine lv_lconst (v := 0) hx hb dX4_split_66 (by decide) ?_
    obtain ⟨σ2, eσ2, hf⟩ := zbi hf
    refine z_callV (n := 4) (rest := []) (st1 := []) (c0 := 4) (i0 := 0) (hZ.2.1 (4, 0) (by decide)) (by rfl) S hG hS hZ (fun _ _ h => h) (c_X4_put l D aC zs A nl ad σb62 y3b62 0 x1 0 σ2 eσ2) zw_348 zw_349 zw_350 zw_27 zw_351 (by decide +kernel) ⟨rfl, rfl⟩ ⟨(Nat.le_of_ble_eq_true rfl), (Nat.le_of_ble_eq_true rfl)⟩ hl.1 rfl (by rfl) (by rfl) (Nat.le_of_ble_eq_true rfl) dX4_split_67 ⟨Nat.zero_le _, Nat.zero_le _⟩ (fun H locs hz3 hG hS => ?_)
    have hq := (Option.some.inj hf)
    subst hq
    exact z_vret S hG hS hlocks trivial hr dX4_split_70
  have hK0 : ∀ (H : Heap) (locs : List Loc) (ls : Array Slot), zG D aC A nl ad σ s H → va_S A s.heap H locs → lv_has ls 5 [(0, .ref (ad 4 0 0)), (1, .int x1)] → f_X4_split σ x1 = some σ' → zWk p l e ({ frames := 2, cells := 0, slots := 0, locals := 55 } : Room) s m args below meth c A none (fun t => zG D aC A nl ad σ' t t.heap ∧ True) H locs (F0 m 0 ls []) := by
    intro H locs ls hG hS hl hf
    unfold f_X4_split at hf
    refine lv_iconst (v := 0) hx hb dX4_split_0 (by decide) ?_
    refine lv_istore_n (lv' := [(2, .int 0), (0, .ref (ad 4 0 0)), (1, .int x1)]) hx hb dX4_split_1 rfl hl (by decide) rfl (fun ls hl => ?_)
    refine lv_iconst (v := 0) hx hb dX4_split_2 (by decide) ?_
    refine lv_istore_n (lv' := [(3, .int 0), (2, .int 0), (0, .ref (ad 4 0 0)), (1, .int x1)]) hx hb dX4_split_3 rfl hl (by decide) rfl (fun ls hl => ?_)
    refine lv_iconst (v := 0) hx hb dX4_split_4 (by decide) ?_
    refine lv_istore (lv' := [(4, .int 0), (3, .int 0), (2, .int 0), (0, .ref (ad 4 0 0)), (1, .int x1)]) hx hb dX4_split_5 hl (by decide) rfl (fun ls hl => ?_)
    obtain ⟨t7, hw7, hfo7⟩ := zbi hf
    have KL7 : ∀ (n : Nat) (y2l7 : Int32) (y3l7 : Int32) (y4l7 : Int32) (σl7 : zM) (H : Heap) (locs : List Loc) (ls : Array Slot), zG D aC A nl ad σl7 s H → va_S A s.heap H locs → lv_has ls 5 [(0, .ref (ad 4 0 0)), (1, .int x1), (2, .int y2l7), (3, .int y3l7), (4, .int y4l7)] → zwh (fun (q : (Int32 × Int32 × Int32 × zM)) => f_X4_split_L7 x1 q.1 q.2.1 q.2.2.1 q.2.2.2) n (y2l7, y3l7, y4l7, σl7) = some t7 → zWk p l e ({ frames := 2, cells := 0, slots := 0, locals := 55 } : Room) s m args below meth c A none (fun t => zG D aC A nl ad σ' t t.heap ∧ True) H locs (F0 m 7 ls []) := by
      intro n
      induction n with
      | zero =>
        intro y2l7 y3l7 y4l7 σl7 H locs ls hG hS hl hw
        exact (zwh_0 hw).elim
      | succ n ih7 =>
        intro y2l7 y3l7 y4l7 σl7 H locs ls hG hS hl hw
        obtain ⟨rr7, hf, hk7⟩ := zwh_u hw
        have hf : f_X4_split_L7 x1 y2l7 y3l7 y4l7 σl7 = some rr7 := hf
        unfold f_X4_split_L7 at hf
        have KJ56_7 : ∀ (y2b56 : Int32) (y3b56 : Int32) (y4b56 : Int32)  (σb56_7 : zM) (H : Heap) (locs : List Loc) (ls : Array Slot), zG D aC A nl ad σb56_7 s H → va_S A s.heap H locs → lv_has ls 5 [(0, .ref (ad 4 0 0)), (1, .int x1), (2, .int y2b56), (3, .int y3b56), (4, .int y4b56)] → (f_X4_split_B56_7 σb56_7 x1 y2b56 y3b56 y4b56) = some rr7 → zWk p l e ({ frames := 2, cells := 0, slots := 0, locals := 55 } : Room) s m args below meth c A none (fun t => zG D aC A nl ad σ' t t.heap ∧ True) H locs (F0 m 56 ls []) := by
          intro y2b56 y3b56 y4b56  σb56_7 H locs ls hG hS hl hf
          unfold f_X4_split_B56_7 at hf
          refine lv_iinc (v := (y4b56 + 1)) (lv' := [(4, .int (y4b56 + 1)), (0, .ref (ad 4 0 0)), (1, .int x1), (2, .int y2b56), (3, .int y3b56)]) hx hb dX4_split_56 hl (k := 4) rfl rfl (by decide) rfl (fun ls hl => ?_)
          refine lv_goto (tgt := 7) hx hb dX4_split_59 (by decide) ?_
          cases hf
          exact ih7 y2b56 y3b56 (y4b56 + 1) σb56_7 H locs ls hG hS (lv_sub hl [1, 2, 3, 4, 0] rfl) hk7
        refine lv_iload hx hb dX4_split_7 (lv_at hl 4 rfl) ?_
        refine lv_iload_n hx hb dX4_split_9 rfl (lv_at hl 1 rfl) ?_
        refine lv_icmp_ge (tgt := 62) hx hb dX4_split_10 (by decide) (fun c12 => ?_) (fun c12 => ?_)
        · have hf := zif_p c12 hf
          cases hf
          have hk7 : ((y3l7, σl7) : (Int32 × zM)) = t7 := hk7
          have hf := hfo7
          rw [← hk7] at hf
          have hf : (f_X4_split_B62 σl7 x1 y3l7) = some σ' := hf
          exact KJ62 y3l7 σl7 H locs ls hG hS (lv_sub hl [0, 1, 3] rfl) hf
        · have hf := zif_n c12 hf
          refine lv_iload hx hb dX4_split_13 (lv_at hl 4 rfl) ?_
          refine lv_iload_n hx hb dX4_split_15 rfl (lv_at hl 2 rfl) ?_
          refine lv_icmp_lt (tgt := 56) hx hb dX4_split_16 (by decide) (fun c13 => ?_) (fun c13 => ?_)
          · have hf := zif_p c13 hf
            exact KJ56_7 y2l7 y3l7 y4l7 σl7 H locs ls hG hS (lv_sub hl [0, 1, 2, 3, 4] rfl) hf
          · have hf := zif_n c13 hf
            refine lv_aload_n hx hb dX4_split_19 rfl (lv_at hl 0 rfl) ?_
            refine z_get (c0 := 4) (i0 := 0) (k0 := 0) (T := TX4) (v := .ref (ad 9 0 0)) S hG (hZ.2.1 (4, 0) (by decide)) rfl inlX4 (by decide) rfl zw_120 rfl dX4_split_20 ?_
            refine lv_iload hx hb dX4_split_23 (lv_at hl 4 rfl) ?_
            obtain ⟨r14, er14, hf⟩ := zbi hf
            refine z_callV (n := 1) (rest := []) (st1 := [.int r14]) (c0 := 9) (i0 := 0) (hZ.2.1 (9, 0) (by decide)) (by rfl) S hG hS hZ (fun _ _ h => h) (c_X9_at l D aC zs A nl ad σl7 y4l7 r14 er14) zw_326 zw_327 zw_328 zw_15 zw_329 (by decide +kernel) ⟨rfl, rfl⟩ ⟨(Nat.le_of_ble_eq_true rfl), (Nat.le_of_ble_eq_true rfl)⟩ hl.1 rfl (by rfl) (by rfl) (Nat.le_of_ble_eq_true rfl) dX4_split_25 ⟨Nat.zero_le _, Nat.zero_le _⟩ (fun H locs hz15 hG hS => ?_)
            refine z_callS (n := 1) (rest := []) (st1 := [.int (f_X4_isBlank r14)]) S hG hS hZ (fun _ _ h => h) (c_X4_isBlank l D aC zs A nl ad σl7 r14 (f_X4_isBlank r14) rfl) zw_330 zw_331 zw_27 zw_332 (by decide +kernel) ⟨rfl, rfl⟩ ⟨(Nat.le_of_ble_eq_true rfl), (Nat.le_of_ble_eq_true rfl)⟩ hl.1 rfl (by rfl) (by rfl) (Nat.le_of_ble_eq_true rfl) dX4_split_28 ⟨Nat.zero_le _, Nat.zero_le _⟩ (fun H locs hz16 hG hS => ?_)
            refine lv_if_ne (tgt := 56) hx hb dX4_split_31 (by decide) (fun c17 => ?_) (fun c17 => ?_)
            · have hf := zif_n c17 hf
              exact KJ56_7 y2l7 y3l7 y4l7 σl7 H locs ls hG hS (lv_sub hl [0, 1, 2, 3, 4] rfl) hf
            · have hf := zif_p c17 hf
              refine lv_iload_n hx hb dX4_split_34 rfl (lv_at hl 3 rfl) ?_
              refine lv_sipush (v := 900) hx hb dX4_split_35 (by decide) ?_
              refine lv_icmp_ge (tgt := 56) hx hb dX4_split_38 (by decide) (fun c18 => ?_) (fun c18 => ?_)
              · have hf := zif_p c18 hf
                exact KJ56_7 y2l7 y3l7 y4l7 σl7 H locs ls hG hS (lv_sub hl [0, 1, 2, 3, 4] rfl) hf
              · have hf := zif_n c18 hf
                refine lv_iload hx hb dX4_split_41 (lv_at hl 4 rfl) ?_
                refine lv_aload_n hx hb dX4_split_43 rfl (lv_at hl 0 rfl) ?_
                refine lv_iload hx hb dX4_split_44 (lv_at hl 4 rfl) ?_
                refine lv_iload_n hx hb dX4_split_46 rfl (lv_at hl 1 rfl) ?_
                refine lv_iload_n hx hb dX4_split_47 rfl (lv_at hl 3 rfl) ?_
                obtain ⟨q19, eq19, hf⟩ := zbi hf
                refine z_callV (n := 3) (rest := [.int y4l7]) (st1 := [.int q19.1, .int y4l7]) (c0 := 4) (i0 := 0) (hZ.2.1 (4, 0) (by decide)) (by rfl) S hG hS hZ (fun _ _ h => h) (c_X4_tokenAt l D aC zs A nl ad σl7 y4l7 x1 y3l7 q19.1 q19.2 eq19) zw_333 zw_334 zw_335 zw_27 zw_336 (by decide +kernel) ⟨rfl, rfl⟩ ⟨(Nat.le_of_ble_eq_true rfl), (Nat.le_of_ble_eq_true rfl)⟩ hl.1 rfl (by rfl) (by rfl) (Nat.le_of_ble_eq_true rfl) dX4_split_48 ⟨Nat.zero_le _, Nat.zero_le _⟩ (fun H locs hz20 hG hS => ?_)
                refine lv_iadd hx hb dX4_split_51 ?_
                refine lv_istore_n (lv' := [(2, .int (y4l7 + q19.1)), (0, .ref (ad 4 0 0)), (1, .int x1), (3, .int y3l7), (4, .int y4l7)]) hx hb dX4_split_52 rfl hl (by decide) rfl (fun ls hl => ?_)
                refine lv_iinc (v := (y3l7 + 1)) (lv' := [(3, .int (y3l7 + 1)), (2, .int (y4l7 + q19.1)), (0, .ref (ad 4 0 0)), (1, .int x1), (4, .int y4l7)]) hx hb dX4_split_53 hl (k := 3) rfl rfl (by decide) rfl (fun ls hl => ?_)
                exact KJ56_7 (y4l7 + q19.1) (y3l7 + 1) y4l7 q19.2 H locs ls hG hS (lv_sub hl [2, 3, 1, 0, 4] rfl) hf
    exact KL7 zFu 0 0 0 σ H locs ls hG hS (lv_sub hl [3, 4, 2, 1, 0] rfl) hw7
  exact hK0 _ _ ls hG hS hl hf
set_option maxRecDepth 100000 in
set_option maxHeartbeats 4000000 in
theorem c_X4_isKind (l : Launch) (D : va_G) (aC : Nat → ClassId) (zs : Nat × Nat) (A : Nat → Prop) (nl : zNL) (ad : Nat → Nat → Nat → Nat) (σ : zM) (x1 : Int32) (r : Int32)  (hf : f_X4_isKind σ x1 = some r) : Met l yX4_isKind (Cond.code yX4_isKind cX4_isKind 2 (some .boolean) :: wsL_law) ({ frames := 0, cells := 0, slots := 0, locals := 0 } : Room) (zP D aC zs zfX A nl ad σ [.ref (ad 4 0 0), .int x1]) (zQ (some (.int r)) (fun t => zG D aC A nl ad σ t t.heap ∧ (r = 0 ∨ r = 1)) A) 0 0 A := by
  refine Met.ofW (cc := cX4_isKind) (maxL := 2) (ret := (some .boolean)) (by decide) rfl ?_
  intro p e s m args below meth c s₁ B hml hv
  obtain ⟨rfl, hG, hZ⟩ := hv
  have hx := B.exec
  have hb := B.bytes
  have hr := B.returns
  have hts : ∀ w ∈ wsL_law, w.before ([.ref (ad 4 0 0), .int x1] : List Value).toArray s = true := fun w h => (atoms_spec B.pre) w (List.mem_cons_of_mem _ h)
  have hown : s.vm.findClass RX4 = some m.cls := findClass_of_methodNamed B.named
  have hlocks := B.notSynchronized
  have S : zS p m c cX4_isKind 2 s ([.ref (ad 4 0 0), .int x1] : List Value).toArray RX4 := ⟨hx, hb, hml, hown, hts⟩
  have hS : va_S A s.heap s.heap [] := va_S.rf
  have hl := lv_entry ([.ref (ad 4 0 0), .int x1]) (n := 2) (Nat.le_of_ble_eq_true rfl)
  rw [lg_entry_eq]
  generalize (lg_sl ([.ref (ad 4 0 0), .int x1]) ++ List.replicate (2 - (lg_sl ([.ref (ad 4 0 0), .int x1])).length) Slot.unset).toArray = ls at hl ⊢
  have hl : lv_has ls 2 [(0, .ref (ad 4 0 0)), (1, .int x1)] := hl
  generalize hargs : ([.ref (ad 4 0 0), .int x1] : List Value).toArray = args at S hts ⊢
  clear hargs
  have hK0 : ∀ (H : Heap) (locs : List Loc) (ls : Array Slot), zG D aC A nl ad σ s H → va_S A s.heap H locs → lv_has ls 2 [(0, .ref (ad 4 0 0)), (1, .int x1)] → f_X4_isKind σ x1 = some r → zWk p l e ({ frames := 0, cells := 0, slots := 0, locals := 0 } : Room) s m args below meth c A (some (.int r)) (fun t => zG D aC A nl ad σ t t.heap ∧ (r = 0 ∨ r = 1)) H locs (F0 m 0 ls []) := by
    intro H locs ls hG hS hl hf
    unfold f_X4_isKind at hf
    refine lv_aload_n hx hb dX4_isKind_0 rfl (lv_at hl 0 rfl) ?_
    refine z_get (c0 := 4) (i0 := 0) (k0 := 8) (T := TX4) (v := .int (zI σ 4 0 8)) S hG (hZ.2.1 (4, 0) (by decide)) rfl inlX4 (by decide) rfl zw_118 rfl dX4_isKind_1 ?_
    refine lv_if_lt (tgt := 36) hx hb dX4_isKind_4 (by decide) (fun c1 => ?_) (fun c1 => ?_)
    · have hf := zif_p c1 hf
      refine lv_iconst (v := 0) hx hb dX4_isKind_36 (by decide) ?_
      have hq := (Option.some.inj hf)
      subst hq
      exact z_zret S hG hS hlocks (Or.inl rfl) hr dX4_isKind_37
    · have hf := zif_n c1 hf
      refine lv_aload_n hx hb dX4_isKind_7 rfl (lv_at hl 0 rfl) ?_
      refine z_get (c0 := 4) (i0 := 0) (k0 := 8) (T := TX4) (v := .int (zI σ 4 0 8)) S hG (hZ.2.1 (4, 0) (by decide)) rfl inlX4 (by decide) rfl zw_118 rfl dX4_isKind_8 ?_
      refine lv_aload_n hx hb dX4_isKind_11 rfl (lv_at hl 0 rfl) ?_
      refine z_get (c0 := 4) (i0 := 0) (k0 := 3) (T := TX4) (v := .ref (ad 4 0 4)) S hG (hZ.2.1 (4, 0) (by decide)) rfl inlX4 (by decide) rfl zw_111 rfl dX4_isKind_12 ?_
      refine z_alen (c0 := 4) (i0 := 0) (k0 := 3) (n := 4) (v := 901) S hG (hZ.2.1 (4, 0) (by decide)) (by decide) rfl (by decide) (by rfl) dX4_isKind_15 ?_
      refine lv_icmp_ge (tgt := 36) hx hb dX4_isKind_16 (by decide) (fun c2 => ?_) (fun c2 => ?_)
      · have hf := zif_p c2 hf
        refine lv_iconst (v := 0) hx hb dX4_isKind_36 (by decide) ?_
        have hq := (Option.some.inj hf)
        subst hq
        exact z_zret S hG hS hlocks (Or.inl rfl) hr dX4_isKind_37
      · have hf := zif_n c2 hf
        refine lv_aload_n hx hb dX4_isKind_19 rfl (lv_at hl 0 rfl) ?_
        refine z_get (c0 := 4) (i0 := 0) (k0 := 3) (T := TX4) (v := .ref (ad 4 0 4)) S hG (hZ.2.1 (4, 0) (by decide)) rfl inlX4 (by decide) rfl zw_111 rfl dX4_isKind_20 ?_
        refine lv_aload_n hx hb dX4_isKind_23 rfl (lv_at hl 0 rfl) ?_
        refine z_get (c0 := 4) (i0 := 0) (k0 := 8) (T := TX4) (v := .int (zI σ 4 0 8)) S hG (hZ.2.1 (4, 0) (by decide)) rfl inlX4 (by decide) rfl zw_118 rfl dX4_isKind_24 ?_
        obtain ⟨i3, hi3, hf⟩ := zbi hf
        refine z_iald (c0 := 4) (i0 := 0) (k0 := 3) S hG (hZ.2.1 (4, 0) (by decide)) (by decide) rfl hi3 dX4_isKind_27 ?_
        refine lv_iload_n hx hb dX4_isKind_28 rfl (lv_at hl 1 rfl) ?_
        refine lv_icmp_ne (tgt := 36) hx hb dX4_isKind_29 (by decide) (fun c4 => ?_) (fun c4 => ?_)
        · have hf := zif_n c4 hf
          refine lv_iconst (v := 0) hx hb dX4_isKind_36 (by decide) ?_
          have hq := (Option.some.inj hf)
          subst hq
          exact z_zret S hG hS hlocks (Or.inl rfl) hr dX4_isKind_37
        · have hf := zif_p c4 hf
          refine lv_iconst (v := 1) hx hb dX4_isKind_32 (by decide) ?_
          refine lv_goto (tgt := 37) hx hb dX4_isKind_33 (by decide) ?_
          have hq := (Option.some.inj hf)
          subst hq
          exact z_zret S hG hS hlocks (Or.inr rfl) hr dX4_isKind_37
  exact hK0 _ _ ls hG hS hl hf
set_option maxRecDepth 100000 in
set_option maxHeartbeats 4000000 in
theorem c_X4_value (l : Launch) (D : va_G) (aC : Nat → ClassId) (zs : Nat × Nat) (A : Nat → Prop) (nl : zNL) (ad : Nat → Nat → Nat → Nat) (σ : zM)  (r : Int64)  (hf : f_X4_value σ = some r) : Met l yX4_value (Cond.code yX4_value cX4_value 1 (some .long) :: wsL_law) ({ frames := 0, cells := 0, slots := 0, locals := 0 } : Room) (zP D aC zs zfX A nl ad σ [.ref (ad 4 0 0)]) (zQ (some (.long r)) (fun t => zG D aC A nl ad σ t t.heap ∧ True) A) 0 0 A := by
  refine Met.ofW (cc := cX4_value) (maxL := 1) (ret := (some .long)) (by decide) rfl ?_
  intro p e s m args below meth c s₁ B hml hv
  obtain ⟨rfl, hG, hZ⟩ := hv
  have hx := B.exec
  have hb := B.bytes
  have hr := B.returns
  have hts : ∀ w ∈ wsL_law, w.before ([.ref (ad 4 0 0)] : List Value).toArray s = true := fun w h => (atoms_spec B.pre) w (List.mem_cons_of_mem _ h)
  have hown : s.vm.findClass RX4 = some m.cls := findClass_of_methodNamed B.named
  have hlocks := B.notSynchronized
  have S : zS p m c cX4_value 1 s ([.ref (ad 4 0 0)] : List Value).toArray RX4 := ⟨hx, hb, hml, hown, hts⟩
  have hS : va_S A s.heap s.heap [] := va_S.rf
  have hl := lv_entry ([.ref (ad 4 0 0)]) (n := 1) (Nat.le_of_ble_eq_true rfl)
  rw [lg_entry_eq]
  generalize (lg_sl ([.ref (ad 4 0 0)]) ++ List.replicate (1 - (lg_sl ([.ref (ad 4 0 0)])).length) Slot.unset).toArray = ls at hl ⊢
  have hl : lv_has ls 1 [(0, .ref (ad 4 0 0))] := hl
  generalize hargs : ([.ref (ad 4 0 0)] : List Value).toArray = args at S hts ⊢
  clear hargs
  have KJ31 : ∀ (H : Heap) (locs : List Loc) (ls : Array Slot), zG D aC A nl ad σ s H → va_S A s.heap H locs → lv_has ls 1 [(0, .ref (ad 4 0 0))] → (f_X4_value_B31 σ) = some r → zWk p l e ({ frames := 0, cells := 0, slots := 0, locals := 0 } : Room) s m args below meth c A (some (.long r)) (fun t => zG D aC A nl ad σ t t.heap ∧ True) H locs (F0 m 31 ls []) := by
    intro    H locs ls hG hS hl hf
    unfold f_X4_value_B31 at hf
    refine lv_ldc2 (v := (-1)) hx hb hown (hts _ zw_378) dX4_value_31 ?_
    have hq := (Option.some.inj hf)
    subst hq
    exact z_lret S hG hS hlocks trivial hr dX4_value_34
  have hK0 : ∀ (H : Heap) (locs : List Loc) (ls : Array Slot), zG D aC A nl ad σ s H → va_S A s.heap H locs → lv_has ls 1 [(0, .ref (ad 4 0 0))] → f_X4_value σ = some r → zWk p l e ({ frames := 0, cells := 0, slots := 0, locals := 0 } : Room) s m args below meth c A (some (.long r)) (fun t => zG D aC A nl ad σ t t.heap ∧ True) H locs (F0 m 0 ls []) := by
    intro H locs ls hG hS hl hf
    unfold f_X4_value at hf
    refine lv_aload_n hx hb dX4_value_0 rfl (lv_at hl 0 rfl) ?_
    refine z_get (c0 := 4) (i0 := 0) (k0 := 8) (T := TX4) (v := .int (zI σ 4 0 8)) S hG (hZ.2.1 (4, 0) (by decide)) rfl inlX4 (by decide) rfl zw_118 rfl dX4_value_1 ?_
    refine lv_if_lt (tgt := 31) hx hb dX4_value_4 (by decide) (fun c1 => ?_) (fun c1 => ?_)
    · have hf := zif_p c1 hf
      exact KJ31 H locs ls hG hS (lv_sub hl [0] rfl) hf
    · have hf := zif_n c1 hf
      refine lv_aload_n hx hb dX4_value_7 rfl (lv_at hl 0 rfl) ?_
      refine z_get (c0 := 4) (i0 := 0) (k0 := 8) (T := TX4) (v := .int (zI σ 4 0 8)) S hG (hZ.2.1 (4, 0) (by decide)) rfl inlX4 (by decide) rfl zw_118 rfl dX4_value_8 ?_
      refine lv_aload_n hx hb dX4_value_11 rfl (lv_at hl 0 rfl) ?_
      refine z_get (c0 := 4) (i0 := 0) (k0 := 5) (T := TX4) (v := .ref (ad 4 0 6)) S hG (hZ.2.1 (4, 0) (by decide)) rfl inlX4 (by decide) rfl zw_113 rfl dX4_value_12 ?_
      refine z_alen (c0 := 4) (i0 := 0) (k0 := 5) (n := 7) (v := 901) S hG (hZ.2.1 (4, 0) (by decide)) (by decide) rfl (by decide) (by rfl) dX4_value_15 ?_
      refine lv_icmp_ge (tgt := 31) hx hb dX4_value_16 (by decide) (fun c2 => ?_) (fun c2 => ?_)
      · have hf := zif_p c2 hf
        exact KJ31 H locs ls hG hS (lv_sub hl [0] rfl) hf
      · have hf := zif_n c2 hf
        refine lv_aload_n hx hb dX4_value_19 rfl (lv_at hl 0 rfl) ?_
        refine z_get (c0 := 4) (i0 := 0) (k0 := 5) (T := TX4) (v := .ref (ad 4 0 6)) S hG (hZ.2.1 (4, 0) (by decide)) rfl inlX4 (by decide) rfl zw_113 rfl dX4_value_20 ?_
        refine lv_aload_n hx hb dX4_value_23 rfl (lv_at hl 0 rfl) ?_
        refine z_get (c0 := 4) (i0 := 0) (k0 := 8) (T := TX4) (v := .int (zI σ 4 0 8)) S hG (hZ.2.1 (4, 0) (by decide)) rfl inlX4 (by decide) rfl zw_118 rfl dX4_value_24 ?_
        obtain ⟨i3, hi3, hf⟩ := zbi hf
        refine z_lald (c0 := 4) (i0 := 0) (k0 := 5) S hG (hZ.2.1 (4, 0) (by decide)) (by decide) rfl hi3 dX4_value_27 ?_
        refine lv_goto (tgt := 34) hx hb dX4_value_28 (by decide) ?_
        have hq := (Option.some.inj hf)
        subst hq
        exact z_lret S hG hS hlocks trivial hr dX4_value_34
  exact hK0 _ _ ls hG hS hl hf
set_option maxRecDepth 100000 in
set_option maxHeartbeats 4000000 in
theorem c_X4_keyword (l : Launch) (D : va_G) (aC : Nat → ClassId) (zs : Nat × Nat) (A : Nat → Prop) (nl : zNL) (ad : Nat → Nat → Nat → Nat) (σ : zM)  (r : Int32)  (hf : f_X4_keyword σ = some r) : Met l yX4_keyword (Cond.code yX4_keyword cX4_keyword 1 (some .int) :: wsL_law) ({ frames := 1, cells := 0, slots := 0, locals := 21 } : Room) (zP D aC zs zfX A nl ad σ [.ref (ad 4 0 0)]) (zQ (some (.int r)) (fun t => zG D aC A nl ad σ t t.heap ∧ True) A) 0 0 A := by
  refine Met.ofW (cc := cX4_keyword) (maxL := 1) (ret := (some .int)) (by decide) rfl ?_
  intro p e s m args below meth c s₁ B hml hv
  obtain ⟨rfl, hG, hZ⟩ := hv
  have hx := B.exec
  have hb := B.bytes
  have hr := B.returns
  have hts : ∀ w ∈ wsL_law, w.before ([.ref (ad 4 0 0)] : List Value).toArray s = true := fun w h => (atoms_spec B.pre) w (List.mem_cons_of_mem _ h)
  have hown : s.vm.findClass RX4 = some m.cls := findClass_of_methodNamed B.named
  have hlocks := B.notSynchronized
  have S : zS p m c cX4_keyword 1 s ([.ref (ad 4 0 0)] : List Value).toArray RX4 := ⟨hx, hb, hml, hown, hts⟩
  have hS : va_S A s.heap s.heap [] := va_S.rf
  have hl := lv_entry ([.ref (ad 4 0 0)]) (n := 1) (Nat.le_of_ble_eq_true rfl)
  rw [lg_entry_eq]
  generalize (lg_sl ([.ref (ad 4 0 0)]) ++ List.replicate (1 - (lg_sl ([.ref (ad 4 0 0)])).length) Slot.unset).toArray = ls at hl ⊢
  have hl : lv_has ls 1 [(0, .ref (ad 4 0 0))] := hl
  generalize hargs : ([.ref (ad 4 0 0)] : List Value).toArray = args at S hts ⊢
  clear hargs
  have hK0 : ∀ (H : Heap) (locs : List Loc) (ls : Array Slot), zG D aC A nl ad σ s H → va_S A s.heap H locs → lv_has ls 1 [(0, .ref (ad 4 0 0))] → f_X4_keyword σ = some r → zWk p l e ({ frames := 1, cells := 0, slots := 0, locals := 21 } : Room) s m args below meth c A (some (.int r)) (fun t => zG D aC A nl ad σ t t.heap ∧ True) H locs (F0 m 0 ls []) := by
    intro H locs ls hG hS hl hf
    unfold f_X4_keyword at hf
    refine lv_aload_n hx hb dX4_keyword_0 rfl (lv_at hl 0 rfl) ?_
    refine lv_iconst (v := 1) hx hb dX4_keyword_1 (by decide) ?_
    obtain ⟨r1, er1, hf⟩ := zbi hf
    refine z_callV (n := 1) (rest := []) (st1 := [.int r1]) (c0 := 4) (i0 := 0) (hZ.2.1 (4, 0) (by decide)) (by rfl) S hG hS hZ (fun _ _ h => h) (c_X4_isKind l D aC zs A nl ad σ 1 r1 er1) zw_357 zw_358 zw_359 zw_27 zw_360 (by decide +kernel) ⟨rfl, rfl⟩ ⟨(Nat.le_of_ble_eq_true rfl), (Nat.le_of_ble_eq_true rfl)⟩ hl.1 rfl (by rfl) (by rfl) (Nat.le_of_ble_eq_true rfl) dX4_keyword_2 ⟨Nat.zero_le _, Nat.zero_le _⟩ (fun H locs hz2 hG hS => ?_)
    refine lv_if_eq (tgt := 16) hx hb dX4_keyword_5 (by decide) (fun c3 => ?_) (fun c3 => ?_)
    · have hf := zif_p c3 hf
      refine lv_iconst (v := (-1)) hx hb dX4_keyword_16 (by decide) ?_
      have hq := (Option.some.inj hf)
      subst hq
      exact z_iret S hG hS hlocks trivial hr dX4_keyword_17
    · have hf := zif_n c3 hf
      refine lv_aload_n hx hb dX4_keyword_8 rfl (lv_at hl 0 rfl) ?_
      obtain ⟨r4, er4, hf⟩ := zbi hf
      refine z_callV (n := 0) (rest := []) (st1 := [.long r4]) (c0 := 4) (i0 := 0) (hZ.2.1 (4, 0) (by decide)) (by rfl) S hG hS hZ (fun _ _ h => h) (c_X4_value l D aC zs A nl ad σ r4 er4) zw_374 zw_375 zw_376 zw_27 zw_377 (by decide +kernel) ⟨rfl, rfl⟩ ⟨(Nat.le_of_ble_eq_true rfl), (Nat.le_of_ble_eq_true rfl)⟩ hl.1 rfl (by rfl) (by rfl) (Nat.le_of_ble_eq_true rfl) dX4_keyword_9 ⟨Nat.zero_le _, Nat.zero_le _⟩ (fun H locs hz5 hG hS => ?_)
      refine lv_l2i (v := r4.toInt32) hx hb dX4_keyword_12 rfl ?_
      refine lv_goto (tgt := 17) hx hb dX4_keyword_13 (by decide) ?_
      have hq := (Option.some.inj hf)
      subst hq
      exact z_iret S hG hS hlocks trivial hr dX4_keyword_17
  exact hK0 _ _ ls hG hS hl hf
set_option maxRecDepth 100000 in
set_option maxHeartbeats 4000000 in
theorem c_X5_find (l : Launch) (D : va_G) (aC : Nat → ClassId) (zs : Nat × Nat) (A : Nat → Prop) (nl : zNL) (ad : Nat → Nat → Nat → Nat) (σ : zM) (x1 : Int64) (r : Int32)  (hf : f_X5_find σ x1 = some r) : Met l yX5_find (Cond.code yX5_find cX5_find 4 (some .int) :: wsL_law) ({ frames := 0, cells := 0, slots := 0, locals := 0 } : Room) (zP D aC zs zfX A nl ad σ [.ref (ad 5 0 0), .long x1]) (zQ (some (.int r)) (fun t => zG D aC A nl ad σ t t.heap ∧ True) A) 0 0 A := by
  refine Met.ofW (cc := cX5_find) (maxL := 4) (ret := (some .int)) (by decide) rfl ?_
  intro p e s m args below meth c s₁ B hml hv
  obtain ⟨rfl, hG, hZ⟩ := hv
  have hx := B.exec
  have hb := B.bytes
  have hr := B.returns
  have hts : ∀ w ∈ wsL_law, w.before ([.ref (ad 5 0 0), .long x1] : List Value).toArray s = true := fun w h => (atoms_spec B.pre) w (List.mem_cons_of_mem _ h)
  have hown : s.vm.findClass RX5 = some m.cls := findClass_of_methodNamed B.named
  have hlocks := B.notSynchronized
  have S : zS p m c cX5_find 4 s ([.ref (ad 5 0 0), .long x1] : List Value).toArray RX5 := ⟨hx, hb, hml, hown, hts⟩
  have hS : va_S A s.heap s.heap [] := va_S.rf
  have hl := lv_entry ([.ref (ad 5 0 0), .long x1]) (n := 4) (Nat.le_of_ble_eq_true rfl)
  rw [lg_entry_eq]
  generalize (lg_sl ([.ref (ad 5 0 0), .long x1]) ++ List.replicate (4 - (lg_sl ([.ref (ad 5 0 0), .long x1])).length) Slot.unset).toArray = ls at hl ⊢
  have hl : lv_has ls 4 [(0, .ref (ad 5 0 0)), (1, .long x1)] := hl
  generalize hargs : ([.ref (ad 5 0 0), .long x1] : List Value).toArray = args at S hts ⊢
  clear hargs
  have KJ35 : ∀ (y3b35 : Int32)   (H : Heap) (locs : List Loc) (ls : Array Slot), zG D aC A nl ad σ s H → va_S A s.heap H locs → lv_has ls 4 [(0, .ref (ad 5 0 0)), (1, .long x1), (3, .int y3b35)] → (f_X5_find_B35 σ x1 y3b35) = some r → zWk p l e ({ frames := 0, cells := 0, slots := 0, locals := 0 } : Room) s m args below meth c A (some (.int r)) (fun t => zG D aC A nl ad σ t t.heap ∧ True) H locs (F0 m 35 ls []) := by
    intro y3b35   H locs ls hG hS hl hf
    unfold f_X5_find_B35 at hf
    refine lv_iload_n hx hb dX5_find_35 rfl (lv_at hl 2 rfl) ?_
    refine lv_iconst (v := 1) hx hb dX5_find_36 (by decide) ?_
    refine lv_iadd hx hb dX5_find_37 ?_
    have hq := (Option.some.inj hf)
    subst hq
    exact z_iret S hG hS hlocks trivial hr dX5_find_38
  have hK0 : ∀ (H : Heap) (locs : List Loc) (ls : Array Slot), zG D aC A nl ad σ s H → va_S A s.heap H locs → lv_has ls 4 [(0, .ref (ad 5 0 0)), (1, .long x1)] → f_X5_find σ x1 = some r → zWk p l e ({ frames := 0, cells := 0, slots := 0, locals := 0 } : Room) s m args below meth c A (some (.int r)) (fun t => zG D aC A nl ad σ t t.heap ∧ True) H locs (F0 m 0 ls []) := by
    intro H locs ls hG hS hl hf
    unfold f_X5_find at hf
    refine lv_iconst (v := 0) hx hb dX5_find_0 (by decide) ?_
    refine lv_istore_n (lv' := [(3, .int 0), (0, .ref (ad 5 0 0)), (1, .long x1)]) hx hb dX5_find_1 rfl hl (by decide) rfl (fun ls hl => ?_)
    obtain ⟨t2, hw2, hfo2⟩ := zbi hf
    have KL2 : ∀ (n : Nat) (y3l2 : Int32) (H : Heap) (locs : List Loc) (ls : Array Slot), zG D aC A nl ad σ s H → va_S A s.heap H locs → lv_has ls 4 [(0, .ref (ad 5 0 0)), (1, .long x1), (3, .int y3l2)] → zwh (fun (q : Int32) => f_X5_find_L2 σ x1 q) n y3l2 = some t2 → zWk p l e ({ frames := 0, cells := 0, slots := 0, locals := 0 } : Room) s m args below meth c A (some (.int r)) (fun t => zG D aC A nl ad σ t t.heap ∧ True) H locs (F0 m 2 ls []) := by
      intro n
      induction n with
      | zero =>
        intro y3l2 H locs ls hG hS hl hw
        exact (zwh_0 hw).elim
      | succ n ih2 =>
        intro y3l2 H locs ls hG hS hl hw
        obtain ⟨rr2, hf, hk2⟩ := zwh_u hw
        have hf : f_X5_find_L2 σ x1 y3l2 = some rr2 := hf
        unfold f_X5_find_L2 at hf
        refine lv_iload_n hx hb dX5_find_2 rfl (lv_at hl 2 rfl) ?_
        refine lv_aload_n hx hb dX5_find_3 rfl (lv_at hl 0 rfl) ?_
        refine z_get (c0 := 5) (i0 := 0) (k0 := 1) (T := TX5) (v := .int (zI σ 5 0 1)) S hG (hZ.2.1 (5, 0) (by decide)) rfl inlX5 (by decide) rfl zw_68 rfl dX5_find_4 ?_
        refine lv_aload_n hx hb dX5_find_7 rfl (lv_at hl 0 rfl) ?_
        refine z_get (c0 := 5) (i0 := 0) (k0 := 2) (T := TX5) (v := .int (zI σ 5 0 2)) S hG (hZ.2.1 (5, 0) (by decide)) rfl inlX5 (by decide) rfl zw_69 rfl dX5_find_8 ?_
        refine lv_iadd hx hb dX5_find_11 ?_
        refine lv_icmp_ge (tgt := 45) hx hb dX5_find_12 (by decide) (fun c5 => ?_) (fun c5 => ?_)
        · have hf := zif_p c5 hf
          cases hf
          have hk2 : ((.inr ()) : (Int32 ⊕ Unit)) = t2 := hk2
          have hf := hfo2
          rw [← hk2] at hf
          have hf : (some (-1)) = some r := hf
          refine lv_iconst (v := (-1)) hx hb dX5_find_45 (by decide) ?_
          have hq := (Option.some.inj hf)
          subst hq
          exact z_iret S hG hS hlocks trivial hr dX5_find_46
        · have hf := zif_n c5 hf
          refine lv_iload_n hx hb dX5_find_15 rfl (lv_at hl 2 rfl) ?_
          refine lv_aload_n hx hb dX5_find_16 rfl (lv_at hl 0 rfl) ?_
          refine z_get (c0 := 5) (i0 := 0) (k0 := 0) (T := TX5) (v := .ref (ad 5 0 1)) S hG (hZ.2.1 (5, 0) (by decide)) rfl inlX5 (by decide) rfl zw_67 rfl dX5_find_17 ?_
          refine z_alen (c0 := 5) (i0 := 0) (k0 := 0) (n := 7) (v := 12) S hG (hZ.2.1 (5, 0) (by decide)) (by decide) rfl (by decide) (by rfl) dX5_find_20 ?_
          refine lv_icmp_ge (tgt := 45) hx hb dX5_find_21 (by decide) (fun c6 => ?_) (fun c6 => ?_)
          · have hf := zif_p c6 hf
            cases hf
            have hk2 : ((.inr ()) : (Int32 ⊕ Unit)) = t2 := hk2
            have hf := hfo2
            rw [← hk2] at hf
            have hf : (some (-1)) = some r := hf
            refine lv_iconst (v := (-1)) hx hb dX5_find_45 (by decide) ?_
            have hq := (Option.some.inj hf)
            subst hq
            exact z_iret S hG hS hlocks trivial hr dX5_find_46
          · have hf := zif_n c6 hf
            refine lv_aload_n hx hb dX5_find_24 rfl (lv_at hl 0 rfl) ?_
            refine z_get (c0 := 5) (i0 := 0) (k0 := 0) (T := TX5) (v := .ref (ad 5 0 1)) S hG (hZ.2.1 (5, 0) (by decide)) rfl inlX5 (by decide) rfl zw_67 rfl dX5_find_25 ?_
            refine lv_iload_n hx hb dX5_find_28 rfl (lv_at hl 2 rfl) ?_
            obtain ⟨i7, hi7, hf⟩ := zbi hf
            refine z_lald (c0 := 5) (i0 := 0) (k0 := 0) S hG (hZ.2.1 (5, 0) (by decide)) (by decide) rfl hi7 dX5_find_29 ?_
            refine lv_lload_n hx hb dX5_find_30 rfl (lv_at hl 1 rfl) ?_
            refine W.lcmp hx hb dX5_find_31 ?_
            refine lv_if_ne (tgt := 39) hx hb dX5_find_32 (by decide) (fun c8 => ?_) (fun c8 => ?_)
            · have hf := zif_n (fun h => c8 ((lg_cmp_eq (zL σ 5 0 0 i7) x1).mpr h)) hf
              refine lv_iinc (v := (y3l2 + 1)) (lv' := [(3, .int (y3l2 + 1)), (0, .ref (ad 5 0 0)), (1, .long x1)]) hx hb dX5_find_39 hl (k := 2) rfl rfl (by decide) rfl (fun ls hl => ?_)
              refine lv_goto (tgt := 2) hx hb dX5_find_42 (by decide) ?_
              cases hf
              exact ih2 (y3l2 + 1) H locs ls hG hS (lv_sub hl [1, 2, 0] rfl) hk2
            · have hf := zif_p ((lg_cmp_eq (zL σ 5 0 0 i7) x1).mp  c8) hf
              cases hf
              have hk2 : ((.inl y3l2) : (Int32 ⊕ Unit)) = t2 := hk2
              have hf := hfo2
              rw [← hk2] at hf
              have hf : (f_X5_find_B35 σ x1 y3l2) = some r := hf
              exact KJ35 y3l2 H locs ls hG hS (lv_sub hl [0, 1, 2] rfl) hf
    exact KL2 zFu 0 H locs ls hG hS (lv_sub hl [1, 2, 0] rfl) hw2
  exact hK0 _ _ ls hG hS hl hf
set_option maxRecDepth 100000 in
set_option maxHeartbeats 4000000 in
theorem c_X5_add (l : Launch) (D : va_G) (aC : Nat → ClassId) (zs : Nat × Nat) (A : Nat → Prop) (nl : zNL) (ad : Nat → Nat → Nat → Nat) (σ : zM) (x1 : Int64) (r : Int32) (σ' : zM)  (hf : f_X5_add σ x1 = some (r, σ')) : Met l yX5_add (Cond.code yX5_add cX5_add 4 (some .int) :: wsL_law) ({ frames := 0, cells := 0, slots := 0, locals := 0 } : Room) (zP D aC zs zfX A nl ad σ [.ref (ad 5 0 0), .long x1]) (zQ (some (.int r)) (fun t => zG D aC A nl ad σ' t t.heap ∧ True) A) 0 0 A := by
  refine Met.ofW (cc := cX5_add) (maxL := 4) (ret := (some .int)) (by decide) rfl ?_
  intro p e s m args below meth c s₁ B hml hv
  obtain ⟨rfl, hG, hZ⟩ := hv
  have hx := B.exec
  have hb := B.bytes
  have hr := B.returns
  have hts : ∀ w ∈ wsL_law, w.before ([.ref (ad 5 0 0), .long x1] : List Value).toArray s = true := fun w h => (atoms_spec B.pre) w (List.mem_cons_of_mem _ h)
  have hown : s.vm.findClass RX5 = some m.cls := findClass_of_methodNamed B.named
  have hlocks := B.notSynchronized
  have S : zS p m c cX5_add 4 s ([.ref (ad 5 0 0), .long x1] : List Value).toArray RX5 := ⟨hx, hb, hml, hown, hts⟩
  have hS : va_S A s.heap s.heap [] := va_S.rf
  have hl := lv_entry ([.ref (ad 5 0 0), .long x1]) (n := 4) (Nat.le_of_ble_eq_true rfl)
  rw [lg_entry_eq]
  generalize (lg_sl ([.ref (ad 5 0 0), .long x1]) ++ List.replicate (4 - (lg_sl ([.ref (ad 5 0 0), .long x1])).length) Slot.unset).toArray = ls at hl ⊢
  have hl : lv_has ls 4 [(0, .ref (ad 5 0 0)), (1, .long x1)] := hl
  generalize hargs : ([.ref (ad 5 0 0), .long x1] : List Value).toArray = args at S hts ⊢
  clear hargs
  have hK0 : ∀ (H : Heap) (locs : List Loc) (ls : Array Slot), zG D aC A nl ad σ s H → va_S A s.heap H locs → lv_has ls 4 [(0, .ref (ad 5 0 0)), (1, .long x1)] → f_X5_add σ x1 = some (r, σ') → zWk p l e ({ frames := 0, cells := 0, slots := 0, locals := 0 } : Room) s m args below meth c A (some (.int r)) (fun t => zG D aC A nl ad σ' t t.heap ∧ True) H locs (F0 m 0 ls []) := by
    intro H locs ls hG hS hl hf
    unfold f_X5_add at hf
    refine lv_aload_n hx hb dX5_add_0 rfl (lv_at hl 0 rfl) ?_
    refine z_get (c0 := 5) (i0 := 0) (k0 := 1) (T := TX5) (v := .int (zI σ 5 0 1)) S hG (hZ.2.1 (5, 0) (by decide)) rfl inlX5 (by decide) rfl zw_68 rfl dX5_add_1 ?_
    refine lv_aload_n hx hb dX5_add_4 rfl (lv_at hl 0 rfl) ?_
    refine z_get (c0 := 5) (i0 := 0) (k0 := 2) (T := TX5) (v := .int (zI σ 5 0 2)) S hG (hZ.2.1 (5, 0) (by decide)) rfl inlX5 (by decide) rfl zw_69 rfl dX5_add_5 ?_
    refine lv_iadd hx hb dX5_add_8 ?_
    refine lv_istore_n (lv' := [(3, .int ((zI σ 5 0 1) + (zI σ 5 0 2))), (0, .ref (ad 5 0 0)), (1, .long x1)]) hx hb dX5_add_9 rfl hl (by decide) rfl (fun ls hl => ?_)
    refine lv_iload_n hx hb dX5_add_10 rfl (lv_at hl 0 rfl) ?_
    refine lv_if_lt (tgt := 23) hx hb dX5_add_11 (by decide) (fun c1 => ?_) (fun c1 => ?_)
    · have hf := zif_p c1 hf
      refine lv_iconst (v := (-1)) hx hb dX5_add_23 (by decide) ?_
      obtain ⟨hq1, hq2⟩ := Prod.mk.inj (Option.some.inj hf)
      subst hq1
      subst hq2
      exact z_iret S hG hS hlocks trivial hr dX5_add_24
    · have hf := zif_n c1 hf
      refine lv_iload_n hx hb dX5_add_14 rfl (lv_at hl 0 rfl) ?_
      refine lv_aload_n hx hb dX5_add_15 rfl (lv_at hl 1 rfl) ?_
      refine z_get (c0 := 5) (i0 := 0) (k0 := 0) (T := TX5) (v := .ref (ad 5 0 1)) S hG (hZ.2.1 (5, 0) (by decide)) rfl inlX5 (by decide) rfl zw_67 rfl dX5_add_16 ?_
      refine z_alen (c0 := 5) (i0 := 0) (k0 := 0) (n := 7) (v := 12) S hG (hZ.2.1 (5, 0) (by decide)) (by decide) rfl (by decide) (by rfl) dX5_add_19 ?_
      refine lv_icmp_lt (tgt := 25) hx hb dX5_add_20 (by decide) (fun c2 => ?_) (fun c2 => ?_)
      · have hf := zif_p c2 hf
        refine lv_aload_n hx hb dX5_add_25 rfl (lv_at hl 1 rfl) ?_
        refine z_get (c0 := 5) (i0 := 0) (k0 := 0) (T := TX5) (v := .ref (ad 5 0 1)) S hG (hZ.2.1 (5, 0) (by decide)) rfl inlX5 (by decide) rfl zw_67 rfl dX5_add_26 ?_
        refine lv_iload_n hx hb dX5_add_29 rfl (lv_at hl 0 rfl) ?_
        refine lv_lload_n hx hb dX5_add_30 rfl (lv_at hl 2 rfl) ?_
        obtain ⟨i3, hi3, hf⟩ := zbi hf
        refine z_last (c0 := 5) (i0 := 0) (k0 := 0) S hG hS (hZ.2.1 (5, 0) (by decide)) (by decide) rfl hi3 dX5_add_31 (fun H locs hG hS => ?_)
        obtain ⟨σ4, eσ4, hf⟩ := zlt_s hf
        rw [← eσ4] at hG
        refine lv_aload_n hx hb dX5_add_32 rfl (lv_at hl 1 rfl) ?_
        refine lv_dup hx hb dX5_add_33 rfl ?_
        refine z_get (c0 := 5) (i0 := 0) (k0 := 2) (T := TX5) (v := .int (zI σ4 5 0 2)) S hG (hZ.2.1 (5, 0) (by decide)) rfl inlX5 (by decide) rfl zw_69 rfl dX5_add_34 ?_
        refine lv_iconst (v := 1) hx hb dX5_add_37 (by decide) ?_
        refine lv_iadd hx hb dX5_add_38 ?_
        refine z_putI (c0 := 5) (i0 := 0) (k0 := 2) (T := TX5) S hG hS tyX5 tyX5_ok nmX5 (hZ.2.1 (5, 0) (by decide)) rfl inlX5 (by decide) rfl rfl zw_69 (by decide +kernel) rfl dX5_add_39 (fun H locs hG hS => ?_)
        obtain ⟨σ5, eσ5, hf⟩ := zlt_s hf
        rw [← eσ5] at hG
        refine lv_iload_n hx hb dX5_add_42 rfl (lv_at hl 0 rfl) ?_
        refine lv_iconst (v := 1) hx hb dX5_add_43 (by decide) ?_
        refine lv_iadd hx hb dX5_add_44 ?_
        obtain ⟨hq1, hq2⟩ := Prod.mk.inj (Option.some.inj hf)
        subst hq1
        subst hq2
        exact z_iret S hG hS hlocks trivial hr dX5_add_45
      · have hf := zif_n c2 hf
        refine lv_iconst (v := (-1)) hx hb dX5_add_23 (by decide) ?_
        obtain ⟨hq1, hq2⟩ := Prod.mk.inj (Option.some.inj hf)
        subst hq1
        subst hq2
        exact z_iret S hG hS hlocks trivial hr dX5_add_24
  exact hK0 _ _ ls hG hS hl hf
set_option maxRecDepth 100000 in
set_option maxHeartbeats 4000000 in
theorem c_X4_takeNewName (l : Launch) (D : va_G) (aC : Nat → ClassId) (zs : Nat × Nat) (A : Nat → Prop) (nl : zNL) (ad : Nat → Nat → Nat → Nat) (σ : zM)  (r : Int32) (σ' : zM)  (hf : f_X4_takeNewName σ = some (r, σ')) : Met l yX4_takeNewName (Cond.code yX4_takeNewName cX4_takeNewName 2 (some .boolean) :: wsL_law) ({ frames := 1, cells := 0, slots := 0, locals := 23 } : Room) (zP D aC zs zfX A nl ad σ [.ref (ad 4 0 0)]) (zQ (some (.int r)) (fun t => zG D aC A nl ad σ' t t.heap ∧ (r = 0 ∨ r = 1)) A) 0 0 A := by
  refine Met.ofW (cc := cX4_takeNewName) (maxL := 2) (ret := (some .boolean)) (by decide) rfl ?_
  intro p e s m args below meth c s₁ B hml hv
  obtain ⟨rfl, hG, hZ⟩ := hv
  have hx := B.exec
  have hb := B.bytes
  have hr := B.returns
  have hts : ∀ w ∈ wsL_law, w.before ([.ref (ad 4 0 0)] : List Value).toArray s = true := fun w h => (atoms_spec B.pre) w (List.mem_cons_of_mem _ h)
  have hown : s.vm.findClass RX4 = some m.cls := findClass_of_methodNamed B.named
  have hlocks := B.notSynchronized
  have S : zS p m c cX4_takeNewName 2 s ([.ref (ad 4 0 0)] : List Value).toArray RX4 := ⟨hx, hb, hml, hown, hts⟩
  have hS : va_S A s.heap s.heap [] := va_S.rf
  have hl := lv_entry ([.ref (ad 4 0 0)]) (n := 2) (Nat.le_of_ble_eq_true rfl)
  rw [lg_entry_eq]
  generalize (lg_sl ([.ref (ad 4 0 0)]) ++ List.replicate (2 - (lg_sl ([.ref (ad 4 0 0)])).length) Slot.unset).toArray = ls at hl ⊢
  have hl : lv_has ls 2 [(0, .ref (ad 4 0 0))] := hl
  generalize hargs : ([.ref (ad 4 0 0)] : List Value).toArray = args at S hts ⊢
  clear hargs
  have KJ39 : ∀ (y1b39 : Int32)  (σb39 : zM) (H : Heap) (locs : List Loc) (ls : Array Slot), zG D aC A nl ad σb39 s H → va_S A s.heap H locs → lv_has ls 2 [(0, .ref (ad 4 0 0)), (1, .int y1b39)] → (f_X4_takeNewName_B39 σb39 y1b39) = some (r, σ') → zWk p l e ({ frames := 1, cells := 0, slots := 0, locals := 23 } : Room) s m args below meth c A (some (.int r)) (fun t => zG D aC A nl ad σ' t t.heap ∧ (r = 0 ∨ r = 1)) H locs (F0 m 39 ls []) := by
    intro y1b39  σb39 H locs ls hG hS hl hf
    unfold f_X4_takeNewName_B39 at hf
    refine lv_iload_n hx hb dX4_takeNewName_39 rfl (lv_at hl 1 rfl) ?_
    refine lv_iconst (v := 1) hx hb dX4_takeNewName_40 (by decide) ?_
    refine lv_icmp_lt (tgt := 53) hx hb dX4_takeNewName_41 (by decide) (fun c9 => ?_) (fun c9 => ?_)
    · have hf := zif_p c9 hf
      refine lv_iconst (v := 0) hx hb dX4_takeNewName_53 (by decide) ?_
      obtain ⟨hq1, hq2⟩ := Prod.mk.inj (Option.some.inj hf)
      subst hq1
      subst hq2
      exact z_zret S hG hS hlocks (Or.inl rfl) hr dX4_takeNewName_54
    · have hf := zif_n c9 hf
      refine lv_iload_n hx hb dX4_takeNewName_44 rfl (lv_at hl 1 rfl) ?_
      refine lv_aload_n hx hb dX4_takeNewName_45 rfl (lv_at hl 0 rfl) ?_
      refine z_get (c0 := 4) (i0 := 0) (k0 := 6) (T := TX4) (v := .ref (ad 4 0 7)) S hG (hZ.2.1 (4, 0) (by decide)) rfl inlX4 (by decide) rfl zw_115 rfl dX4_takeNewName_46 ?_
      refine z_alen (c0 := 4) (i0 := 0) (k0 := 6) (n := 6) (v := 13) S hG (hZ.2.1 (4, 0) (by decide)) (by decide) rfl (by decide) (by rfl) dX4_takeNewName_49 ?_
      refine lv_icmp_lt (tgt := 55) hx hb dX4_takeNewName_50 (by decide) (fun c10 => ?_) (fun c10 => ?_)
      · have hf := zif_p c10 hf
        refine lv_aload_n hx hb dX4_takeNewName_55 rfl (lv_at hl 0 rfl) ?_
        refine z_get (c0 := 4) (i0 := 0) (k0 := 6) (T := TX4) (v := .ref (ad 4 0 7)) S hG (hZ.2.1 (4, 0) (by decide)) rfl inlX4 (by decide) rfl zw_115 rfl dX4_takeNewName_56 ?_
        refine lv_iload_n hx hb dX4_takeNewName_59 rfl (lv_at hl 1 rfl) ?_
        refine lv_iconst (v := 1) hx hb dX4_takeNewName_60 (by decide) ?_
        obtain ⟨i11, hi11, hf⟩ := zbi hf
        refine z_zast (c0 := 4) (i0 := 0) (k0 := 6) S hG hS (hZ.2.1 (4, 0) (by decide)) (by decide) rfl hi11 dX4_takeNewName_61 (fun H locs hG hS => ?_)
        obtain ⟨σ12, eσ12, hf⟩ := zlt_s hf
        rw [← eσ12] at hG
        refine lv_aload_n hx hb dX4_takeNewName_62 rfl (lv_at hl 0 rfl) ?_
        refine lv_iload_n hx hb dX4_takeNewName_63 rfl (lv_at hl 1 rfl) ?_
        refine z_putI (c0 := 4) (i0 := 0) (k0 := 9) (T := TX4) S hG hS tyX4 tyX4_ok nmX4 (hZ.2.1 (4, 0) (by decide)) rfl inlX4 (by decide) rfl rfl zw_119 (by decide +kernel) rfl dX4_takeNewName_64 (fun H locs hG hS => ?_)
        obtain ⟨σ13, eσ13, hf⟩ := zlt_s hf
        rw [← eσ13] at hG
        refine lv_aload_n hx hb dX4_takeNewName_67 rfl (lv_at hl 0 rfl) ?_
        refine lv_dup hx hb dX4_takeNewName_68 rfl ?_
        refine z_get (c0 := 4) (i0 := 0) (k0 := 8) (T := TX4) (v := .int (zI σ13 4 0 8)) S hG (hZ.2.1 (4, 0) (by decide)) rfl inlX4 (by decide) rfl zw_118 rfl dX4_takeNewName_69 ?_
        refine lv_iconst (v := 1) hx hb dX4_takeNewName_72 (by decide) ?_
        refine lv_iadd hx hb dX4_takeNewName_73 ?_
        refine z_putI (c0 := 4) (i0 := 0) (k0 := 8) (T := TX4) S hG hS tyX4 tyX4_ok nmX4 (hZ.2.1 (4, 0) (by decide)) rfl inlX4 (by decide) rfl rfl zw_118 (by decide +kernel) rfl dX4_takeNewName_74 (fun H locs hG hS => ?_)
        obtain ⟨σ14, eσ14, hf⟩ := zlt_s hf
        rw [← eσ14] at hG
        refine lv_iconst (v := 1) hx hb dX4_takeNewName_77 (by decide) ?_
        obtain ⟨hq1, hq2⟩ := Prod.mk.inj (Option.some.inj hf)
        subst hq1
        subst hq2
        exact z_zret S hG hS hlocks (Or.inr rfl) hr dX4_takeNewName_78
      · have hf := zif_n c10 hf
        refine lv_iconst (v := 0) hx hb dX4_takeNewName_53 (by decide) ?_
        obtain ⟨hq1, hq2⟩ := Prod.mk.inj (Option.some.inj hf)
        subst hq1
        subst hq2
        exact z_zret S hG hS hlocks (Or.inl rfl) hr dX4_takeNewName_54
  have hK0 : ∀ (H : Heap) (locs : List Loc) (ls : Array Slot), zG D aC A nl ad σ s H → va_S A s.heap H locs → lv_has ls 2 [(0, .ref (ad 4 0 0))] → f_X4_takeNewName σ = some (r, σ') → zWk p l e ({ frames := 1, cells := 0, slots := 0, locals := 23 } : Room) s m args below meth c A (some (.int r)) (fun t => zG D aC A nl ad σ' t t.heap ∧ (r = 0 ∨ r = 1)) H locs (F0 m 0 ls []) := by
    intro H locs ls hG hS hl hf
    unfold f_X4_takeNewName at hf
    refine lv_aload_n hx hb dX4_takeNewName_0 rfl (lv_at hl 0 rfl) ?_
    refine lv_iconst (v := 2) hx hb dX4_takeNewName_1 (by decide) ?_
    obtain ⟨r1, er1, hf⟩ := zbi hf
    refine z_callV (n := 1) (rest := []) (st1 := [.int r1]) (c0 := 4) (i0 := 0) (hZ.2.1 (4, 0) (by decide)) (by rfl) S hG hS hZ (fun _ _ h => h) (c_X4_isKind l D aC zs A nl ad σ 2 r1 er1) zw_357 zw_358 zw_359 zw_27 zw_360 (by decide +kernel) ⟨rfl, rfl⟩ ⟨(Nat.le_of_ble_eq_true rfl), (Nat.le_of_ble_eq_true rfl)⟩ hl.1 rfl (by rfl) (by rfl) (Nat.le_of_ble_eq_true rfl) dX4_takeNewName_2 ⟨Nat.zero_le _, Nat.zero_le _⟩ (fun H locs hz2 hG hS => ?_)
    refine lv_if_ne (tgt := 10) hx hb dX4_takeNewName_5 (by decide) (fun c3 => ?_) (fun c3 => ?_)
    · have hf := zif_n c3 hf
      refine lv_aload_n hx hb dX4_takeNewName_10 rfl (lv_at hl 0 rfl) ?_
      refine z_get (c0 := 4) (i0 := 0) (k0 := 1) (T := TX4) (v := .ref (ad 5 0 0)) S hG (hZ.2.1 (4, 0) (by decide)) rfl inlX4 (by decide) rfl zw_121 rfl dX4_takeNewName_11 ?_
      refine lv_aload_n hx hb dX4_takeNewName_14 rfl (lv_at hl 0 rfl) ?_
      obtain ⟨r4, er4, hf⟩ := zbi hf
      refine z_callV (n := 0) (rest := [.ref (ad 5 0 0)]) (st1 := [.long r4, .ref (ad 5 0 0)]) (c0 := 4) (i0 := 0) (hZ.2.1 (4, 0) (by decide)) (by rfl) S hG hS hZ (fun _ _ h => h) (c_X4_value l D aC zs A nl ad σ r4 er4) zw_374 zw_375 zw_376 zw_27 zw_377 (by decide +kernel) ⟨rfl, rfl⟩ ⟨(Nat.le_of_ble_eq_true rfl), (Nat.le_of_ble_eq_true rfl)⟩ hl.1 rfl (by rfl) (by rfl) (Nat.le_of_ble_eq_true rfl) dX4_takeNewName_15 ⟨Nat.zero_le _, Nat.zero_le _⟩ (fun H locs hz5 hG hS => ?_)
      obtain ⟨r6, er6, hf⟩ := zbi hf
      refine z_callV (n := 1) (rest := []) (st1 := [.int r6]) (c0 := 5) (i0 := 0) (hZ.2.1 (5, 0) (by decide)) (by rfl) S hG hS hZ (fun _ _ h => h) (c_X5_find l D aC zs A nl ad σ r4 r6 er6) zw_387 zw_388 zw_389 zw_19 zw_390 (by decide +kernel) ⟨rfl, rfl⟩ ⟨(Nat.le_of_ble_eq_true rfl), (Nat.le_of_ble_eq_true rfl)⟩ hl.1 rfl (by rfl) (by rfl) (Nat.le_of_ble_eq_true rfl) dX4_takeNewName_18 ⟨Nat.zero_le _, Nat.zero_le _⟩ (fun H locs hz7 hG hS => ?_)
      refine lv_istore_n (lv' := [(1, .int r6), (0, .ref (ad 4 0 0))]) hx hb dX4_takeNewName_21 rfl hl (by decide) rfl (fun ls hl => ?_)
      refine lv_iload_n hx hb dX4_takeNewName_22 rfl (lv_at hl 0 rfl) ?_
      refine lv_iconst (v := (-1)) hx hb dX4_takeNewName_23 (by decide) ?_
      refine lv_icmp_ne (tgt := 39) hx hb dX4_takeNewName_24 (by decide) (fun c8 => ?_) (fun c8 => ?_)
      · have hf := zif_n c8 hf
        exact KJ39 r6 σ H locs ls hG hS (lv_sub hl [1, 0] rfl) hf
      · have hf := zif_p c8 hf
        refine lv_aload_n hx hb dX4_takeNewName_27 rfl (lv_at hl 1 rfl) ?_
        refine z_get (c0 := 4) (i0 := 0) (k0 := 1) (T := TX4) (v := .ref (ad 5 0 0)) S hG (hZ.2.1 (4, 0) (by decide)) rfl inlX4 (by decide) rfl zw_121 rfl dX4_takeNewName_28 ?_
        refine lv_aload_n hx hb dX4_takeNewName_31 rfl (lv_at hl 1 rfl) ?_
        obtain ⟨r15, er15, hf⟩ := zbi hf
        refine z_callV (n := 0) (rest := [.ref (ad 5 0 0)]) (st1 := [.long r15, .ref (ad 5 0 0)]) (c0 := 4) (i0 := 0) (hZ.2.1 (4, 0) (by decide)) (by rfl) S hG hS hZ (fun _ _ h => h) (c_X4_value l D aC zs A nl ad σ r15 er15) zw_374 zw_375 zw_376 zw_27 zw_377 (by decide +kernel) ⟨rfl, rfl⟩ ⟨(Nat.le_of_ble_eq_true rfl), (Nat.le_of_ble_eq_true rfl)⟩ hl.1 rfl (by rfl) (by rfl) (Nat.le_of_ble_eq_true rfl) dX4_takeNewName_32 ⟨Nat.zero_le _, Nat.zero_le _⟩ (fun H locs hz16 hG hS => ?_)
        obtain ⟨q17, eq17, hf⟩ := zbi hf
        refine z_callV (n := 1) (rest := []) (st1 := [.int q17.1]) (c0 := 5) (i0 := 0) (hZ.2.1 (5, 0) (by decide)) (by rfl) S hG hS hZ (fun _ _ h => h) (c_X5_add l D aC zs A nl ad σ r15 q17.1 q17.2 eq17) zw_391 zw_392 zw_393 zw_19 zw_394 (by decide +kernel) ⟨rfl, rfl⟩ ⟨(Nat.le_of_ble_eq_true rfl), (Nat.le_of_ble_eq_true rfl)⟩ hl.1 rfl (by rfl) (by rfl) (Nat.le_of_ble_eq_true rfl) dX4_takeNewName_35 ⟨Nat.zero_le _, Nat.zero_le _⟩ (fun H locs hz18 hG hS => ?_)
        refine lv_istore_n (lv' := [(1, .int q17.1), (0, .ref (ad 4 0 0))]) hx hb dX4_takeNewName_38 rfl hl (by decide) rfl (fun ls hl => ?_)
        exact KJ39 q17.1 q17.2 H locs ls hG hS (lv_sub hl [1, 0] rfl) hf
    · have hf := zif_p c3 hf
      refine lv_iconst (v := 0) hx hb dX4_takeNewName_8 (by decide) ?_
      obtain ⟨hq1, hq2⟩ := Prod.mk.inj (Option.some.inj hf)
      subst hq1
      subst hq2
      exact z_zret S hG hS hlocks (Or.inl rfl) hr dX4_takeNewName_9
  exact hK0 _ _ ls hG hS hl hf
set_option maxRecDepth 100000 in
set_option maxHeartbeats 4000000 in
theorem c_X4_isToken (l : Launch) (D : va_G) (aC : Nat → ClassId) (zs : Nat × Nat) (A : Nat → Prop) (nl : zNL) (ad : Nat → Nat → Nat → Nat) (σ : zM) (x1 : Int32) (x2 : Int32) (r : Int32)  (hf : f_X4_isToken σ x1 x2 = some r) : Met l yX4_isToken (Cond.code yX4_isToken cX4_isToken 3 (some .boolean) :: wsL_law) ({ frames := 0, cells := 0, slots := 0, locals := 0 } : Room) (zP D aC zs zfX A nl ad σ [.ref (ad 4 0 0), .int x1, .int x2]) (zQ (some (.int r)) (fun t => zG D aC A nl ad σ t t.heap ∧ (r = 0 ∨ r = 1)) A) 0 0 A := by
  refine Met.ofW (cc := cX4_isToken) (maxL := 3) (ret := (some .boolean)) (by decide) rfl ?_
  intro p e s m args below meth c s₁ B hml hv
  obtain ⟨rfl, hG, hZ⟩ := hv
  have hx := B.exec
  have hb := B.bytes
  have hr := B.returns
  have hts : ∀ w ∈ wsL_law, w.before ([.ref (ad 4 0 0), .int x1, .int x2] : List Value).toArray s = true := fun w h => (atoms_spec B.pre) w (List.mem_cons_of_mem _ h)
  have hown : s.vm.findClass RX4 = some m.cls := findClass_of_methodNamed B.named
  have hlocks := B.notSynchronized
  have S : zS p m c cX4_isToken 3 s ([.ref (ad 4 0 0), .int x1, .int x2] : List Value).toArray RX4 := ⟨hx, hb, hml, hown, hts⟩
  have hS : va_S A s.heap s.heap [] := va_S.rf
  have hl := lv_entry ([.ref (ad 4 0 0), .int x1, .int x2]) (n := 3) (Nat.le_of_ble_eq_true rfl)
  rw [lg_entry_eq]
  generalize (lg_sl ([.ref (ad 4 0 0), .int x1, .int x2]) ++ List.replicate (3 - (lg_sl ([.ref (ad 4 0 0), .int x1, .int x2])).length) Slot.unset).toArray = ls at hl ⊢
  have hl : lv_has ls 3 [(0, .ref (ad 4 0 0)), (1, .int x1), (2, .int x2)] := hl
  generalize hargs : ([.ref (ad 4 0 0), .int x1, .int x2] : List Value).toArray = args at S hts ⊢
  clear hargs
  have hK0 : ∀ (H : Heap) (locs : List Loc) (ls : Array Slot), zG D aC A nl ad σ s H → va_S A s.heap H locs → lv_has ls 3 [(0, .ref (ad 4 0 0)), (1, .int x1), (2, .int x2)] → f_X4_isToken σ x1 x2 = some r → zWk p l e ({ frames := 0, cells := 0, slots := 0, locals := 0 } : Room) s m args below meth c A (some (.int r)) (fun t => zG D aC A nl ad σ t t.heap ∧ (r = 0 ∨ r = 1)) H locs (F0 m 0 ls []) := by
    intro H locs ls hG hS hl hf
    unfold f_X4_isToken at hf
    refine lv_aload_n hx hb dX4_isToken_0 rfl (lv_at hl 0 rfl) ?_
    refine z_get (c0 := 4) (i0 := 0) (k0 := 8) (T := TX4) (v := .int (zI σ 4 0 8)) S hG (hZ.2.1 (4, 0) (by decide)) rfl inlX4 (by decide) rfl zw_118 rfl dX4_isToken_1 ?_
    refine lv_if_lt (tgt := 63) hx hb dX4_isToken_4 (by decide) (fun c1 => ?_) (fun c1 => ?_)
    · have hf := zif_p c1 hf
      refine lv_iconst (v := 0) hx hb dX4_isToken_63 (by decide) ?_
      have hq := (Option.some.inj hf)
      subst hq
      exact z_zret S hG hS hlocks (Or.inl rfl) hr dX4_isToken_64
    · have hf := zif_n c1 hf
      refine lv_aload_n hx hb dX4_isToken_7 rfl (lv_at hl 0 rfl) ?_
      refine z_get (c0 := 4) (i0 := 0) (k0 := 8) (T := TX4) (v := .int (zI σ 4 0 8)) S hG (hZ.2.1 (4, 0) (by decide)) rfl inlX4 (by decide) rfl zw_118 rfl dX4_isToken_8 ?_
      refine lv_aload_n hx hb dX4_isToken_11 rfl (lv_at hl 0 rfl) ?_
      refine z_get (c0 := 4) (i0 := 0) (k0 := 3) (T := TX4) (v := .ref (ad 4 0 4)) S hG (hZ.2.1 (4, 0) (by decide)) rfl inlX4 (by decide) rfl zw_111 rfl dX4_isToken_12 ?_
      refine z_alen (c0 := 4) (i0 := 0) (k0 := 3) (n := 4) (v := 901) S hG (hZ.2.1 (4, 0) (by decide)) (by decide) rfl (by decide) (by rfl) dX4_isToken_15 ?_
      refine lv_icmp_ge (tgt := 63) hx hb dX4_isToken_16 (by decide) (fun c2 => ?_) (fun c2 => ?_)
      · have hf := zif_p c2 hf
        refine lv_iconst (v := 0) hx hb dX4_isToken_63 (by decide) ?_
        have hq := (Option.some.inj hf)
        subst hq
        exact z_zret S hG hS hlocks (Or.inl rfl) hr dX4_isToken_64
      · have hf := zif_n c2 hf
        refine lv_aload_n hx hb dX4_isToken_19 rfl (lv_at hl 0 rfl) ?_
        refine z_get (c0 := 4) (i0 := 0) (k0 := 8) (T := TX4) (v := .int (zI σ 4 0 8)) S hG (hZ.2.1 (4, 0) (by decide)) rfl inlX4 (by decide) rfl zw_118 rfl dX4_isToken_20 ?_
        refine lv_aload_n hx hb dX4_isToken_23 rfl (lv_at hl 0 rfl) ?_
        refine z_get (c0 := 4) (i0 := 0) (k0 := 5) (T := TX4) (v := .ref (ad 4 0 6)) S hG (hZ.2.1 (4, 0) (by decide)) rfl inlX4 (by decide) rfl zw_113 rfl dX4_isToken_24 ?_
        refine z_alen (c0 := 4) (i0 := 0) (k0 := 5) (n := 7) (v := 901) S hG (hZ.2.1 (4, 0) (by decide)) (by decide) rfl (by decide) (by rfl) dX4_isToken_27 ?_
        refine lv_icmp_ge (tgt := 63) hx hb dX4_isToken_28 (by decide) (fun c3 => ?_) (fun c3 => ?_)
        · have hf := zif_p c3 hf
          refine lv_iconst (v := 0) hx hb dX4_isToken_63 (by decide) ?_
          have hq := (Option.some.inj hf)
          subst hq
          exact z_zret S hG hS hlocks (Or.inl rfl) hr dX4_isToken_64
        · have hf := zif_n c3 hf
          refine lv_aload_n hx hb dX4_isToken_31 rfl (lv_at hl 0 rfl) ?_
          refine z_get (c0 := 4) (i0 := 0) (k0 := 3) (T := TX4) (v := .ref (ad 4 0 4)) S hG (hZ.2.1 (4, 0) (by decide)) rfl inlX4 (by decide) rfl zw_111 rfl dX4_isToken_32 ?_
          refine lv_aload_n hx hb dX4_isToken_35 rfl (lv_at hl 0 rfl) ?_
          refine z_get (c0 := 4) (i0 := 0) (k0 := 8) (T := TX4) (v := .int (zI σ 4 0 8)) S hG (hZ.2.1 (4, 0) (by decide)) rfl inlX4 (by decide) rfl zw_118 rfl dX4_isToken_36 ?_
          obtain ⟨i4, hi4, hf⟩ := zbi hf
          refine z_iald (c0 := 4) (i0 := 0) (k0 := 3) S hG (hZ.2.1 (4, 0) (by decide)) (by decide) rfl hi4 dX4_isToken_39 ?_
          refine lv_iload_n hx hb dX4_isToken_40 rfl (lv_at hl 1 rfl) ?_
          refine lv_icmp_ne (tgt := 63) hx hb dX4_isToken_41 (by decide) (fun c5 => ?_) (fun c5 => ?_)
          · have hf := zif_n c5 hf
            refine lv_iconst (v := 0) hx hb dX4_isToken_63 (by decide) ?_
            have hq := (Option.some.inj hf)
            subst hq
            exact z_zret S hG hS hlocks (Or.inl rfl) hr dX4_isToken_64
          · have hf := zif_p c5 hf
            refine lv_aload_n hx hb dX4_isToken_44 rfl (lv_at hl 0 rfl) ?_
            refine z_get (c0 := 4) (i0 := 0) (k0 := 5) (T := TX4) (v := .ref (ad 4 0 6)) S hG (hZ.2.1 (4, 0) (by decide)) rfl inlX4 (by decide) rfl zw_113 rfl dX4_isToken_45 ?_
            refine lv_aload_n hx hb dX4_isToken_48 rfl (lv_at hl 0 rfl) ?_
            refine z_get (c0 := 4) (i0 := 0) (k0 := 8) (T := TX4) (v := .int (zI σ 4 0 8)) S hG (hZ.2.1 (4, 0) (by decide)) rfl inlX4 (by decide) rfl zw_118 rfl dX4_isToken_49 ?_
            obtain ⟨i6, hi6, hf⟩ := zbi hf
            refine z_lald (c0 := 4) (i0 := 0) (k0 := 5) S hG (hZ.2.1 (4, 0) (by decide)) (by decide) rfl hi6 dX4_isToken_52 ?_
            refine lv_iload_n hx hb dX4_isToken_53 rfl (lv_at hl 2 rfl) ?_
            refine lv_i2l (v := x2.toInt64) hx hb dX4_isToken_54 rfl ?_
            refine W.lcmp hx hb dX4_isToken_55 ?_
            refine lv_if_ne (tgt := 63) hx hb dX4_isToken_56 (by decide) (fun c7 => ?_) (fun c7 => ?_)
            · have hf := zif_n (fun h => c7 ((lg_cmp_eq (zL σ 4 0 5 i6) x2.toInt64).mpr h)) hf
              refine lv_iconst (v := 0) hx hb dX4_isToken_63 (by decide) ?_
              have hq := (Option.some.inj hf)
              subst hq
              exact z_zret S hG hS hlocks (Or.inl rfl) hr dX4_isToken_64
            · have hf := zif_p ((lg_cmp_eq (zL σ 4 0 5 i6) x2.toInt64).mp  c7) hf
              refine lv_iconst (v := 1) hx hb dX4_isToken_59 (by decide) ?_
              refine lv_goto (tgt := 64) hx hb dX4_isToken_60 (by decide) ?_
              have hq := (Option.some.inj hf)
              subst hq
              exact z_zret S hG hS hlocks (Or.inr rfl) hr dX4_isToken_64
  exact hK0 _ _ ls hG hS hl hf
set_option maxRecDepth 100000 in
set_option maxHeartbeats 4000000 in
theorem c_X4_takeWord (l : Launch) (D : va_G) (aC : Nat → ClassId) (zs : Nat × Nat) (A : Nat → Prop) (nl : zNL) (ad : Nat → Nat → Nat → Nat) (σ : zM) (x1 : Int32) (r : Int32) (σ' : zM)  (hf : f_X4_takeWord σ x1 = some (r, σ')) : Met l yX4_takeWord (Cond.code yX4_takeWord cX4_takeWord 3 (some .boolean) :: wsL_law) ({ frames := 1, cells := 0, slots := 0, locals := 22 } : Room) (zP D aC zs zfX A nl ad σ [.ref (ad 4 0 0), .int x1]) (zQ (some (.int r)) (fun t => zG D aC A nl ad σ' t t.heap ∧ (r = 0 ∨ r = 1)) A) 0 0 A := by
  refine Met.ofW (cc := cX4_takeWord) (maxL := 3) (ret := (some .boolean)) (by decide) rfl ?_
  intro p e s m args below meth c s₁ B hml hv
  obtain ⟨rfl, hG, hZ⟩ := hv
  have hx := B.exec
  have hb := B.bytes
  have hr := B.returns
  have hts : ∀ w ∈ wsL_law, w.before ([.ref (ad 4 0 0), .int x1] : List Value).toArray s = true := fun w h => (atoms_spec B.pre) w (List.mem_cons_of_mem _ h)
  have hown : s.vm.findClass RX4 = some m.cls := findClass_of_methodNamed B.named
  have hlocks := B.notSynchronized
  have S : zS p m c cX4_takeWord 3 s ([.ref (ad 4 0 0), .int x1] : List Value).toArray RX4 := ⟨hx, hb, hml, hown, hts⟩
  have hS : va_S A s.heap s.heap [] := va_S.rf
  have hl := lv_entry ([.ref (ad 4 0 0), .int x1]) (n := 3) (Nat.le_of_ble_eq_true rfl)
  rw [lg_entry_eq]
  generalize (lg_sl ([.ref (ad 4 0 0), .int x1]) ++ List.replicate (3 - (lg_sl ([.ref (ad 4 0 0), .int x1])).length) Slot.unset).toArray = ls at hl ⊢
  have hl : lv_has ls 3 [(0, .ref (ad 4 0 0)), (1, .int x1)] := hl
  generalize hargs : ([.ref (ad 4 0 0), .int x1] : List Value).toArray = args at S hts ⊢
  clear hargs
  have hK0 : ∀ (H : Heap) (locs : List Loc) (ls : Array Slot), zG D aC A nl ad σ s H → va_S A s.heap H locs → lv_has ls 3 [(0, .ref (ad 4 0 0)), (1, .int x1)] → f_X4_takeWord σ x1 = some (r, σ') → zWk p l e ({ frames := 1, cells := 0, slots := 0, locals := 22 } : Room) s m args below meth c A (some (.int r)) (fun t => zG D aC A nl ad σ' t t.heap ∧ (r = 0 ∨ r = 1)) H locs (F0 m 0 ls []) := by
    intro H locs ls hG hS hl hf
    unfold f_X4_takeWord at hf
    refine lv_aload_n hx hb dX4_takeWord_0 rfl (lv_at hl 0 rfl) ?_
    refine lv_iconst (v := 1) hx hb dX4_takeWord_1 (by decide) ?_
    refine lv_iload_n hx hb dX4_takeWord_2 rfl (lv_at hl 1 rfl) ?_
    obtain ⟨r1, er1, hf⟩ := zbi hf
    refine z_callV (n := 2) (rest := []) (st1 := [.int r1]) (c0 := 4) (i0 := 0) (hZ.2.1 (4, 0) (by decide)) (by rfl) S hG hS hZ (fun _ _ h => h) (c_X4_isToken l D aC zs A nl ad σ 1 x1 r1 er1) zw_399 zw_400 zw_401 zw_27 zw_402 (by decide +kernel) ⟨rfl, rfl⟩ ⟨(Nat.le_of_ble_eq_true rfl), (Nat.le_of_ble_eq_true rfl)⟩ hl.1 rfl (by rfl) (by rfl) (Nat.le_of_ble_eq_true rfl) dX4_takeWord_3 ⟨Nat.zero_le _, Nat.zero_le _⟩ (fun H locs hz2 hG hS => ?_)
    refine lv_istore_n (lv' := [(2, .int r1), (0, .ref (ad 4 0 0)), (1, .int x1)]) hx hb dX4_takeWord_6 rfl hl (by decide) rfl (fun ls hl => ?_)
    refine lv_aload_n hx hb dX4_takeWord_7 rfl (lv_at hl 1 rfl) ?_
    refine lv_dup hx hb dX4_takeWord_8 rfl ?_
    refine z_get (c0 := 4) (i0 := 0) (k0 := 8) (T := TX4) (v := .int (zI σ 4 0 8)) S hG (hZ.2.1 (4, 0) (by decide)) rfl inlX4 (by decide) rfl zw_118 rfl dX4_takeWord_9 ?_
    refine lv_iload_n hx hb dX4_takeWord_12 rfl (lv_at hl 0 rfl) ?_
    have Kv5 : ∀ (v5 : Int32) (ls : Array Slot), lv_has ls 3 [(2, .int r1), (0, .ref (ad 4 0 0)), (1, .int x1)] → (zlt (zsI σ 4 0 8 ((zI σ 4 0 8) + v5)) fun σ7 => some (r1, σ7)) = some (r, σ') → zWk p l e ({ frames := 1, cells := 0, slots := 0, locals := 22 } : Room) s m args below meth c A (some (.int r)) (fun t => zG D aC A nl ad σ' t t.heap ∧ (r = 0 ∨ r = 1)) H locs (F0 m 21 ls [.int v5, .int (zI σ 4 0 8), .ref (ad 4 0 0)]) := by
      intro v5 ls hl hf
      refine lv_iadd hx hb dX4_takeWord_21 ?_
      refine z_putI (c0 := 4) (i0 := 0) (k0 := 8) (T := TX4) S hG hS tyX4 tyX4_ok nmX4 (hZ.2.1 (4, 0) (by decide)) rfl inlX4 (by decide) rfl rfl zw_118 (by decide +kernel) rfl dX4_takeWord_22 (fun H locs hG hS => ?_)
      obtain ⟨σ7, eσ7, hf⟩ := zlt_s hf
      rw [← eσ7] at hG
      refine lv_iload_n hx hb dX4_takeWord_25 rfl (lv_at hl 0 rfl) ?_
      obtain ⟨hq1, hq2⟩ := Prod.mk.inj (Option.some.inj hf)
      subst hq1
      subst hq2
      exact z_zret S hG hS hlocks hz2 hr dX4_takeWord_26
    refine lv_if_eq (tgt := 20) hx hb dX4_takeWord_13 (by decide) (fun c4 => ?_) (fun c4 => ?_)
    · rw [if_pos c4] at hf
      refine lv_iconst (v := 0) hx hb dX4_takeWord_20 (by decide) ?_
      exact Kv5 _ ls hl hf
    · rw [if_neg c4] at hf
      refine lv_iconst (v := 1) hx hb dX4_takeWord_16 (by decide) ?_
      refine lv_goto (tgt := 21) hx hb dX4_takeWord_17 (by decide) ?_
      exact Kv5 _ ls hl hf
  exact hK0 _ _ ls hG hS hl hf
