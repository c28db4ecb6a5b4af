set_option maxRecDepth 100000 in
set_option maxHeartbeats 4000000 in
theorem c_X12_isCalled (l : Launch) (D : va_G) (aC : Nat → ClassId) (zs : Nat × Nat) (A : Nat → Prop) (nl : zNL) (ad : Nat → Nat → Nat → Nat) (σ : zM) (x1 : Int64) (r : Int32)  (hf : f_X12_isCalled σ x1 = some r) : Met l yX12_isCalled (Cond.code yX12_isCalled cX12_isCalled 5 (some .boolean) :: wsL_law) ({ frames := 0, cells := 0, slots := 0, locals := 0 } : Room) (zP D aC zs zfM A nl ad σ [.ref (ad 12 0 0), .long x1]) (zQ (some (.int r)) (fun t => zG D aC A nl ad σ t t.heap ∧ (r = 0 ∨ r = 1)) A) 0 0 A := by
  refine Met.ofW (cc := cX12_isCalled) (maxL := 5) (ret := (some .boolean)) (by decide) rfl ?_
  intro p e s m args below meth c s₁ B hml hv
  obtain ⟨rfl, hG, hZ⟩ := hv
  have hx := B.exec
  have hb := B.bytes
  have hr := B.returns
  have hts : ∀ w ∈ wsL_law, w.before ([.ref (ad 12 0 0), .long x1] : List Value).toArray s = true := fun w h => (atoms_spec B.pre) w (List.mem_cons_of_mem _ h)
  have hown : s.vm.findClass RX12 = some m.cls := findClass_of_methodNamed B.named
  have hlocks := B.notSynchronized
  have S : zS p m c cX12_isCalled 5 s ([.ref (ad 12 0 0), .long x1] : List Value).toArray RX12 := ⟨hx, hb, hml, hown, hts⟩
  have hS : va_S A s.heap s.heap [] := va_S.rf
  have hl := lv_entry ([.ref (ad 12 0 0), .long x1]) (n := 5) (Nat.le_of_ble_eq_true rfl)
  rw [lg_entry_eq]
  generalize (lg_sl ([.ref (ad 12 0 0), .long x1]) ++ List.replicate (5 - (lg_sl ([.ref (ad 12 0 0), .long x1])).length) Slot.unset).toArray = ls at hl ⊢
  have hl : lv_has ls 5 [(0, .ref (ad 12 0 0)), (1, .long x1)] := hl
  generalize hargs : ([.ref (ad 12 0 0), .long x1] : List Value).toArray = args at S hts ⊢
  clear hargs
  have hK0 : ∀ (H : Heap) (locs : List Loc) (ls : Array Slot), zG D aC A nl ad σ s H → va_S A s.heap H locs → lv_has ls 5 [(0, .ref (ad 12 0 0)), (1, .long x1)] → f_X12_isCalled σ x1 = some r → zWk p l e ({ frames := 0, cells := 0, slots := 0, locals := 0 } : Room) s m args below meth c A (some (.int r)) (fun t => zG D aC A nl ad σ t t.heap ∧ (r = 0 ∨ r = 1)) H locs (F0 m 0 ls []) := by
    intro H locs ls hG hS hl hf
    unfold f_X12_isCalled at hf
    refine lv_iconst (v := 0) hx hb dX12_isCalled_0 (by decide) ?_
    refine lv_istore_n (lv' := [(3, .int 0), (0, .ref (ad 12 0 0)), (1, .long x1)]) hx hb dX12_isCalled_1 rfl hl (by decide) rfl (fun ls hl => ?_)
    refine lv_iconst (v := 0) hx hb dX12_isCalled_2 (by decide) ?_
    refine lv_istore (lv' := [(4, .int 0), (3, .int 0), (0, .ref (ad 12 0 0)), (1, .long x1)]) hx hb dX12_isCalled_3 hl (by decide) rfl (fun ls hl => ?_)
    obtain ⟨t5, hw5, hfo5⟩ := zbi hf
    have KL5 : ∀ (n : Nat) (y3l5 : Int32) (y4l5 : Int32) (H : Heap) (locs : List Loc) (ls : Array Slot), zG D aC A nl ad σ s H → va_S A s.heap H locs → lv_has ls 5 [(0, .ref (ad 12 0 0)), (1, .long x1), (3, .int y3l5), (4, .int y4l5)] → zwh (fun (q : (Int32 × Int32)) => f_X12_isCalled_L5 σ x1 q.1 q.2) n (y3l5, y4l5) = some t5 → zWk p l e ({ frames := 0, cells := 0, slots := 0, locals := 0 } : Room) s m args below meth c A (some (.int r)) (fun t => zG D aC A nl ad σ t t.heap ∧ (r = 0 ∨ r = 1)) H locs (F0 m 5 ls []) := by
      intro n
      induction n with
      | zero =>
        intro y3l5 y4l5 H locs ls hG hS hl hw
        exact (zwh_0 hw).elim
      | succ n ih5 =>
        intro y3l5 y4l5 H locs ls hG hS hl hw
        obtain ⟨rr5, hf, hk5⟩ := zwh_u hw
        have hf : f_X12_isCalled_L5 σ x1 y3l5 y4l5 = some rr5 := hf
        unfold f_X12_isCalled_L5 at hf
        have KJ39_5 : ∀ (y4b39 : Int32) (t0b39 : Int32)   (H : Heap) (locs : List Loc) (ls : Array Slot), zG D aC A nl ad σ s H → va_S A s.heap H locs → lv_has ls 5 [(0, .ref (ad 12 0 0)), (1, .long x1), (4, .int y4b39)] → (f_X12_isCalled_B39_5 σ x1 y4b39 t0b39) = some rr5 → zWk p l e ({ frames := 0, cells := 0, slots := 0, locals := 0 } : Room) s m args below meth c A (some (.int r)) (fun t => zG D aC A nl ad σ t t.heap ∧ (r = 0 ∨ r = 1)) H locs (F0 m 39 ls [.int t0b39]) := by
          intro y4b39 t0b39   H locs ls hG hS hl hf
          unfold f_X12_isCalled_B39_5 at hf
          refine lv_istore_n (lv' := [(3, .int t0b39), (0, .ref (ad 12 0 0)), (1, .long x1), (4, .int y4b39)]) hx hb dX12_isCalled_39 rfl hl (by decide) rfl (fun ls hl => ?_)
          refine lv_iinc (v := (y4b39 + 1)) (lv' := [(4, .int (y4b39 + 1)), (3, .int t0b39), (0, .ref (ad 12 0 0)), (1, .long x1)]) hx hb dX12_isCalled_40 hl (k := 3) rfl rfl (by decide) rfl (fun ls hl => ?_)
          refine lv_goto (tgt := 5) hx hb dX12_isCalled_43 (by decide) ?_
          cases hf
          exact ih5 t0b39 (y4b39 + 1) H locs ls hG hS (lv_sub hl [2, 3, 1, 0] rfl) hk5
        have KJ38_5 : ∀ (y4b38 : Int32)   (H : Heap) (locs : List Loc) (ls : Array Slot), zG D aC A nl ad σ s H → va_S A s.heap H locs → lv_has ls 5 [(0, .ref (ad 12 0 0)), (1, .long x1), (4, .int y4b38)] → (f_X12_isCalled_B38_5 σ x1 y4b38) = some rr5 → zWk p l e ({ frames := 0, cells := 0, slots := 0, locals := 0 } : Room) s m args below meth c A (some (.int r)) (fun t => zG D aC A nl ad σ t t.heap ∧ (r = 0 ∨ r = 1)) H locs (F0 m 38 ls []) := by
          intro y4b38   H locs ls hG hS hl hf
          unfold f_X12_isCalled_B38_5 at hf
          refine lv_iconst (v := 0) hx hb dX12_isCalled_38 (by decide) ?_
          exact KJ39_5 y4b38 0 H locs ls hG hS (lv_sub hl [0, 1, 2] rfl) hf
        have KJ34_5 : ∀ (y4b34 : Int32)   (H : Heap) (locs : List Loc) (ls : Array Slot), zG D aC A nl ad σ s H → va_S A s.heap H locs → lv_has ls 5 [(0, .ref (ad 12 0 0)), (1, .long x1), (4, .int y4b34)] → (f_X12_isCalled_B34_5 σ x1 y4b34) = some rr5 → zWk p l e ({ frames := 0, cells := 0, slots := 0, locals := 0 } : Room) s m args below meth c A (some (.int r)) (fun t => zG D aC A nl ad σ t t.heap ∧ (r = 0 ∨ r = 1)) H locs (F0 m 34 ls []) := by
          intro y4b34   H locs ls hG hS hl hf
          unfold f_X12_isCalled_B34_5 at hf
          refine lv_iconst (v := 1) hx hb dX12_isCalled_34 (by decide) ?_
          refine lv_goto (tgt := 39) hx hb dX12_isCalled_35 (by decide) ?_
          exact KJ39_5 y4b34 1 H locs ls hG hS (lv_sub hl [0, 1, 2] rfl) hf
        refine lv_iload hx hb dX12_isCalled_5 (lv_at hl 3 rfl) ?_
        refine lv_bipush (v := 40) hx hb dX12_isCalled_7 (by decide) ?_
        refine lv_icmp_ge (tgt := 46) hx hb dX12_isCalled_9 (by decide) (fun c8 => ?_) (fun c8 => ?_)
        · have hf := zif_p c8 hf
          cases hf
          have hk5 : (y3l5 : Int32) = t5 := hk5
          have hf := hfo5
          rw [← hk5] at hf
          have hf : ((zck (decide (y3l5 = 0 ∨ y3l5 = 1))).bind fun _ => some y3l5) = some r := hf
          refine lv_iload_n hx hb dX12_isCalled_46 rfl (lv_at hl 2 rfl) ?_
          obtain ⟨_, hzc, hf⟩ := zbi hf
          have hzc := of_decide_eq_true (zck_s hzc)
          have hq := Option.some.inj hf
          subst hq
          exact z_zret S hG hS hlocks hzc hr dX12_isCalled_47
        · have hf := zif_n c8 hf
          refine lv_iload_n hx hb dX12_isCalled_12 rfl (lv_at hl 2 rfl) ?_
          refine lv_if_ne (tgt := 34) hx hb dX12_isCalled_13 (by decide) (fun c9 => ?_) (fun c9 => ?_)
          · have hf := zif_n c9 hf
            exact KJ34_5 y4l5 H locs ls hG hS (lv_sub hl [0, 1, 3] rfl) hf
          · have hf := zif_p c9 hf
            refine lv_lload_n hx hb dX12_isCalled_16 rfl (lv_at hl 1 rfl) ?_
            refine lv_lconst (v := 0) hx hb dX12_isCalled_17 (by decide) ?_
            refine W.lcmp hx hb dX12_isCalled_18 ?_
            refine lv_if_eq (tgt := 38) hx hb dX12_isCalled_19 (by decide) (fun c10 => ?_) (fun c10 => ?_)
            · have hf := zif_p ((lg_cmp_eq x1 0).mp c10) hf
              exact KJ38_5 y4l5 H locs ls hG hS (lv_sub hl [0, 1, 3] rfl) hf
            · have hf := zif_n (fun h => c10 ((lg_cmp_eq x1 0).mpr h)) hf
              refine lv_aload_n hx hb dX12_isCalled_22 rfl (lv_at hl 0 rfl) ?_
              refine z_get (c0 := 12) (i0 := 0) (k0 := 42) (T := TX12) (v := .ref (ad 12 0 43)) S hG (hZ.2.1 (12, 0) (by decide)) rfl inlX12 (by decide) rfl zw_253 rfl dX12_isCalled_23 ?_
              refine lv_iload hx hb dX12_isCalled_26 (lv_at hl 3 rfl) ?_
              obtain ⟨i11, hi11, hf⟩ := zbi hf
              refine z_lald (c0 := 12) (i0 := 0) (k0 := 42) S hG (hZ.2.1 (12, 0) (by decide)) (by decide) rfl hi11 dX12_isCalled_28 ?_
              refine lv_lload_n hx hb dX12_isCalled_29 rfl (lv_at hl 1 rfl) ?_
              refine W.lcmp hx hb dX12_isCalled_30 ?_
              have Kv14 : ∀ (v14 : Int32) (ls : Array Slot), lv_has ls 5 [(0, .ref (ad 12 0 0)), (1, .long x1), (3, .int y3l5), (4, .int y4l5)] → (some (.inl (v14, (y4l5 + 1)))) = some rr5 → zWk p l e ({ frames := 0, cells := 0, slots := 0, locals := 0 } : Room) s m args below meth c A (some (.int r)) (fun t => zG D aC A nl ad σ t t.heap ∧ (r = 0 ∨ r = 1)) H locs (F0 m 39 ls [.int v14]) := by
                intro v14 ls hl hf
                refine lv_istore_n (lv' := [(3, .int v14), (0, .ref (ad 12 0 0)), (1, .long x1), (4, .int y4l5)]) hx hb dX12_isCalled_39 rfl hl (by decide) rfl (fun ls hl => ?_)
                refine lv_iinc (v := (y4l5 + 1)) (lv' := [(4, .int (y4l5 + 1)), (3, .int v14), (0, .ref (ad 12 0 0)), (1, .long x1)]) hx hb dX12_isCalled_40 hl (k := 3) rfl rfl (by decide) rfl (fun ls hl => ?_)
                refine lv_goto (tgt := 5) hx hb dX12_isCalled_43 (by decide) ?_
                cases hf
                exact ih5 v14 (y4l5 + 1) H locs ls hG hS (lv_sub hl [2, 3, 1, 0] rfl) hk5
              refine lv_if_ne (tgt := 38) hx hb dX12_isCalled_31 (by decide) (fun c13 => ?_) (fun c13 => ?_)
              · rw [if_neg (fun h => c13 ((lg_cmp_eq (zL σ 12 0 42 i11) x1).mpr h))] at hf
                refine lv_iconst (v := 0) hx hb dX12_isCalled_38 (by decide) ?_
                exact Kv14 _ ls hl hf
              · rw [if_pos ((lg_cmp_eq (zL σ 12 0 42 i11) x1).mp  c13)] at hf
                refine lv_iconst (v := 1) hx hb dX12_isCalled_34 (by decide) ?_
                refine lv_goto (tgt := 39) hx hb dX12_isCalled_35 (by decide) ?_
                exact Kv14 _ ls hl hf
    exact KL5 zFu 0 0 H locs ls hG hS (lv_sub hl [2, 3, 1, 0] rfl) hw5
  exact hK0 _ _ ls hG hS hl hf
set_option maxRecDepth 100000 in
set_option maxHeartbeats 4000000 in
theorem c_X12_ask (l : Launch) (D : va_G) (aC : Nat → ClassId) (zs : Nat × Nat) (A : Nat → Prop) (nl : zNL) (ad : Nat → Nat → Nat → Nat) (σ : zM) (x1 : Int32) (x2 : Int32) (r : Int32) (σ' : zM)  (hf : f_X12_ask σ x1 x2 = some (r, σ')) : Met l yX12_ask (Cond.code yX12_ask cX12_ask 7 (some .int) :: wsL_law) ({ frames := 2, cells := 0, slots := 0, locals := 42 } : Room) (zP D aC zs zfM A nl ad σ [.ref (ad 12 0 0), .int x1, .int x2]) (zQ (some (.int r)) (fun t => zG D aC A nl ad σ' t t.heap ∧ True) A) 0 0 A := by
  refine Met.ofW (cc := cX12_ask) (maxL := 7) (ret := (some .int)) (by decide) rfl ?_
  intro p e s m args below meth c s₁ B hml hv
  obtain ⟨rfl, hG, hZ⟩ := hv
  have hx := B.exec
  have hb := B.bytes
  have hr := B.returns
  have hts : ∀ w ∈ wsL_law, w.before ([.ref (ad 12 0 0), .int x1, .int x2] : List Value).toArray s = true := fun w h => (atoms_spec B.pre) w (List.mem_cons_of_mem _ h)
  have hown : s.vm.findClass RX12 = some m.cls := findClass_of_methodNamed B.named
  have hlocks := B.notSynchronized
  have S : zS p m c cX12_ask 7 s ([.ref (ad 12 0 0), .int x1, .int x2] : List Value).toArray RX12 := ⟨hx, hb, hml, hown, hts⟩
  have hS : va_S A s.heap s.heap [] := va_S.rf
  have hl := lv_entry ([.ref (ad 12 0 0), .int x1, .int x2]) (n := 7) (Nat.le_of_ble_eq_true rfl)
  rw [lg_entry_eq]
  generalize (lg_sl ([.ref (ad 12 0 0), .int x1, .int x2]) ++ List.replicate (7 - (lg_sl ([.ref (ad 12 0 0), .int x1, .int x2])).length) Slot.unset).toArray = ls at hl ⊢
  have hl : lv_has ls 7 [(0, .ref (ad 12 0 0)), (1, .int x1), (2, .int x2)] := hl
  generalize hargs : ([.ref (ad 12 0 0), .int x1, .int x2] : List Value).toArray = args at S hts ⊢
  clear hargs
  have KJ117 : ∀ (y3b117 : Int32) (y4b117 : Int32)  (σb117 : zM) (H : Heap) (locs : List Loc) (ls : Array Slot), zG D aC A nl ad σb117 s H → va_S A s.heap H locs → lv_has ls 7 [(0, .ref (ad 12 0 0)), (1, .int x1), (2, .int x2), (3, .int y3b117), (4, .int y4b117)] → (f_X12_ask_B117 σb117 x1 x2 y3b117 y4b117) = some (r, σ') → zWk p l e ({ frames := 2, cells := 0, slots := 0, locals := 42 } : Room) s m args below meth c A (some (.int r)) (fun t => zG D aC A nl ad σ' t t.heap ∧ True) H locs (F0 m 117 ls []) := by
    intro y3b117 y4b117  σb117 H locs ls hG hS hl hf
    unfold f_X12_ask_B117 at hf
    refine lv_iload hx hb dX12_ask_117 (lv_at hl 4 rfl) ?_
    refine lv_if_ne (tgt := 134) hx hb dX12_ask_119 (by decide) (fun c7 => ?_) (fun c7 => ?_)
    · have hf := zif_n c7 hf
      refine lv_aload_n hx hb dX12_ask_134 rfl (lv_at hl 0 rfl) ?_
      refine z_get (c0 := 12) (i0 := 0) (k0 := 45) (T := TX12) (v := .ref (ad 12 0 46)) S hG (hZ.2.1 (12, 0) (by decide)) rfl inlX12 (by decide) rfl zw_254 rfl dX12_ask_135 ?_
      refine lv_aload_n hx hb dX12_ask_138 rfl (lv_at hl 0 rfl) ?_
      refine z_get (c0 := 12) (i0 := 0) (k0 := 43) (T := TX12) (v := .int (zI σb117 12 0 43)) S hG (hZ.2.1 (12, 0) (by decide)) rfl inlX12 (by decide) rfl zw_1172 rfl dX12_ask_139 ?_
      refine lv_aload_n hx hb dX12_ask_142 rfl (lv_at hl 0 rfl) ?_
      refine z_get (c0 := 12) (i0 := 0) (k0 := 0) (T := TX12) (v := .int (zI σb117 12 0 0)) S hG (hZ.2.1 (12, 0) (by decide)) rfl inlX12 (by decide) rfl zw_278 rfl dX12_ask_143 ?_
      obtain ⟨i8, hi8, hf⟩ := zbi hf
      refine z_iast (c0 := 12) (i0 := 0) (k0 := 45) S hG hS (hZ.2.1 (12, 0) (by decide)) (by decide) rfl hi8 dX12_ask_146 (fun H locs hG hS => ?_)
      obtain ⟨σ9, eσ9, hf⟩ := zlt_s hf
      rw [← eσ9] at hG
      refine lv_aload_n hx hb dX12_ask_147 rfl (lv_at hl 0 rfl) ?_
      refine z_get (c0 := 12) (i0 := 0) (k0 := 46) (T := TX12) (v := .ref (ad 12 0 47)) S hG (hZ.2.1 (12, 0) (by decide)) rfl inlX12 (by decide) rfl zw_255 rfl dX12_ask_148 ?_
      refine lv_aload_n hx hb dX12_ask_151 rfl (lv_at hl 0 rfl) ?_
      refine z_get (c0 := 12) (i0 := 0) (k0 := 43) (T := TX12) (v := .int (zI σ9 12 0 43)) S hG (hZ.2.1 (12, 0) (by decide)) rfl inlX12 (by decide) rfl zw_1172 rfl dX12_ask_152 ?_
      refine lv_iload_n hx hb dX12_ask_155 rfl (lv_at hl 2 rfl) ?_
      obtain ⟨i10, hi10, hf⟩ := zbi hf
      refine z_iast (c0 := 12) (i0 := 0) (k0 := 46) S hG hS (hZ.2.1 (12, 0) (by decide)) (by decide) rfl hi10 dX12_ask_156 (fun H locs hG hS => ?_)
      obtain ⟨σ11, eσ11, hf⟩ := zlt_s hf
      rw [← eσ11] at hG
      refine lv_aload_n hx hb dX12_ask_157 rfl (lv_at hl 0 rfl) ?_
      refine z_get (c0 := 12) (i0 := 0) (k0 := 47) (T := TX12) (v := .ref (ad 12 0 48)) S hG (hZ.2.1 (12, 0) (by decide)) rfl inlX12 (by decide) rfl zw_256 rfl dX12_ask_158 ?_
      refine lv_aload_n hx hb dX12_ask_161 rfl (lv_at hl 0 rfl) ?_
      refine z_get (c0 := 12) (i0 := 0) (k0 := 43) (T := TX12) (v := .int (zI σ11 12 0 43)) S hG (hZ.2.1 (12, 0) (by decide)) rfl inlX12 (by decide) rfl zw_1172 rfl dX12_ask_162 ?_
      refine lv_iload_n hx hb dX12_ask_165 rfl (lv_at hl 3 rfl) ?_
      obtain ⟨i12, hi12, hf⟩ := zbi hf
      refine z_iast (c0 := 12) (i0 := 0) (k0 := 47) S hG hS (hZ.2.1 (12, 0) (by decide)) (by decide) rfl hi12 dX12_ask_166 (fun H locs hG hS => ?_)
      obtain ⟨σ13, eσ13, hf⟩ := zlt_s hf
      rw [← eσ13] at hG
      refine lv_aload_n hx hb dX12_ask_167 rfl (lv_at hl 0 rfl) ?_
      refine lv_dup hx hb dX12_ask_168 rfl ?_
      refine z_get (c0 := 12) (i0 := 0) (k0 := 43) (T := TX12) (v := .int (zI σ13 12 0 43)) S hG (hZ.2.1 (12, 0) (by decide)) rfl inlX12 (by decide) rfl zw_1172 rfl dX12_ask_169 ?_
      refine lv_iconst (v := 1) hx hb dX12_ask_172 (by decide) ?_
      refine lv_iadd hx hb dX12_ask_173 ?_
      refine z_putI (c0 := 12) (i0 := 0) (k0 := 43) (T := TX12) S hG hS tyX12 tyX12_ok nmX12 (hZ.2.1 (12, 0) (by decide)) rfl inlX12 (by decide) rfl rfl zw_1172 (by decide +kernel) rfl dX12_ask_174 (fun H locs hG hS => ?_)
      obtain ⟨σ14, eσ14, hf⟩ := zlt_s hf
      rw [← eσ14] at hG
      refine lv_aload_n hx hb dX12_ask_177 rfl (lv_at hl 0 rfl) ?_
      refine z_get (c0 := 12) (i0 := 0) (k0 := 43) (T := TX12) (v := .int (zI σ14 12 0 43)) S hG (hZ.2.1 (12, 0) (by decide)) rfl inlX12 (by decide) rfl zw_1172 rfl dX12_ask_178 ?_
      refine lv_iconst (v := 1) hx hb dX12_ask_181 (by decide) ?_
      refine lv_isub hx hb dX12_ask_182 ?_
      obtain ⟨hq1, hq2⟩ := Prod.mk.inj (Option.some.inj hf)
      subst hq1
      subst hq2
      exact z_iret S hG hS hlocks trivial hr dX12_ask_183
    · have hf := zif_p c7 hf
      refine lv_aload_n hx hb dX12_ask_122 rfl (lv_at hl 0 rfl) ?_
      refine lv_dup hx hb dX12_ask_123 rfl ?_
      refine z_get (c0 := 12) (i0 := 0) (k0 := 44) (T := TX12) (v := .int (zI σb117 12 0 44)) S hG (hZ.2.1 (12, 0) (by decide)) rfl inlX12 (by decide) rfl zw_1173 rfl dX12_ask_124 ?_
      refine lv_iconst (v := 1) hx hb dX12_ask_127 (by decide) ?_
      refine lv_iadd hx hb dX12_ask_128 ?_
      refine z_putI (c0 := 12) (i0 := 0) (k0 := 44) (T := TX12) S hG hS tyX12 tyX12_ok nmX12 (hZ.2.1 (12, 0) (by decide)) rfl inlX12 (by decide) rfl rfl zw_1173 (by decide +kernel) rfl dX12_ask_129 (fun H locs hG hS => ?_)
      obtain ⟨σ15, eσ15, hf⟩ := zlt_s hf
      rw [← eσ15] at hG
      refine lv_iconst (v := (-1)) hx hb dX12_ask_132 (by decide) ?_
      obtain ⟨hq1, hq2⟩ := Prod.mk.inj (Option.some.inj hf)
      subst hq1
      subst hq2
      exact z_iret S hG hS hlocks trivial hr dX12_ask_133
  have hK0 : ∀ (H : Heap) (locs : List Loc) (ls : Array Slot), zG D aC A nl ad σ s H → va_S A s.heap H locs → lv_has ls 7 [(0, .ref (ad 12 0 0)), (1, .int x1), (2, .int x2)] → f_X12_ask σ x1 x2 = some (r, σ') → zWk p l e ({ frames := 2, cells := 0, slots := 0, locals := 42 } : Room) s m args below meth c A (some (.int r)) (fun t => zG D aC A nl ad σ' t t.heap ∧ True) H locs (F0 m 0 ls []) := by
    intro H locs ls hG hS hl hf
    unfold f_X12_ask at hf
    refine lv_iload_n hx hb dX12_ask_0 rfl (lv_at hl 1 rfl) ?_
    refine lv_iconst (v := 0) hx hb dX12_ask_1 (by decide) ?_
    refine lv_aload_n hx hb dX12_ask_2 rfl (lv_at hl 0 rfl) ?_
    refine z_get (c0 := 12) (i0 := 0) (k0 := 19) (T := TX12) (v := .int (zI σ 12 0 19)) S hG (hZ.2.1 (12, 0) (by decide)) rfl inlX12 (by decide) rfl zw_296 rfl dX12_ask_3 ?_
    refine z_callS (n := 3) (rest := []) (st1 := [.int (f_X12_isIn x1 0 (zI σ 12 0 19))]) S hG hS hZ (fun _ _ h => h) (c_X12_isIn l D aC zs A nl ad σ x1 0 (zI σ 12 0 19) (f_X12_isIn x1 0 (zI σ 12 0 19)) rfl) zw_514 zw_515 zw_5 zw_516 (by decide +kernel) ⟨rfl, rfl⟩ ⟨(Nat.le_of_ble_eq_true rfl), (Nat.le_of_ble_eq_true rfl)⟩ hl.1 rfl (by rfl) (by rfl) (Nat.le_of_ble_eq_true rfl) dX12_ask_6 ⟨Nat.zero_le _, Nat.zero_le _⟩ (fun H locs hz1 hG hS => ?_)
    refine lv_if_eq (tgt := 21) hx hb dX12_ask_9 (by decide) (fun c2 => ?_) (fun c2 => ?_)
    · have hf := zif_p c2 hf
      refine lv_bipush (v := (-2)) hx hb dX12_ask_21 (by decide) ?_
      obtain ⟨hq1, hq2⟩ := Prod.mk.inj (Option.some.inj hf)
      subst hq1
      subst hq2
      exact z_iret S hG hS hlocks trivial hr dX12_ask_23
    · have hf := zif_n c2 hf
      refine lv_aload_n hx hb dX12_ask_12 rfl (lv_at hl 0 rfl) ?_
      refine z_get (c0 := 12) (i0 := 0) (k0 := 43) (T := TX12) (v := .int (zI σ 12 0 43)) S hG (hZ.2.1 (12, 0) (by decide)) rfl inlX12 (by decide) rfl zw_1172 rfl dX12_ask_13 ?_
      refine lv_bipush (v := 50) hx hb dX12_ask_16 (by decide) ?_
      refine lv_icmp_ne (tgt := 24) hx hb dX12_ask_18 (by decide) (fun c3 => ?_) (fun c3 => ?_)
      · have hf := zif_n c3 hf
        refine lv_aload_n hx hb dX12_ask_24 rfl (lv_at hl 0 rfl) ?_
        refine lv_iload_n hx hb dX12_ask_25 rfl (lv_at hl 1 rfl) ?_
        obtain ⟨σ4, eσ4, hf⟩ := zbi hf
        refine z_callV (n := 1) (rest := []) (st1 := []) (c0 := 12) (i0 := 0) (hZ.2.1 (12, 0) (by decide)) (by rfl) S hG hS hZ (fun _ _ h => h) (c_X12_takesText l D aC zs A nl ad σ x1 σ4 eσ4) zw_517 zw_518 zw_519 zw_5 zw_520 (by decide +kernel) ⟨rfl, rfl⟩ ⟨(Nat.le_of_ble_eq_true rfl), (Nat.le_of_ble_eq_true rfl)⟩ hl.1 rfl (by rfl) (by rfl) (Nat.le_of_ble_eq_true rfl) dX12_ask_26 ⟨Nat.zero_le _, Nat.zero_le _⟩ (fun H locs hz5 hG hS => ?_)
        refine lv_iconst (v := 0) hx hb dX12_ask_29 (by decide) ?_
        refine lv_istore_n (lv' := [(3, .int 0), (0, .ref (ad 12 0 0)), (1, .int x1), (2, .int x2)]) hx hb dX12_ask_30 rfl hl (by decide) rfl (fun ls hl => ?_)
        refine lv_iconst (v := 1) hx hb dX12_ask_31 (by decide) ?_
        refine lv_istore (lv' := [(4, .int 1), (3, .int 0), (0, .ref (ad 12 0 0)), (1, .int x1), (2, .int x2)]) hx hb dX12_ask_32 hl (by decide) rfl (fun ls hl => ?_)
        obtain ⟨t34, hw34, hfo34⟩ := zbi hf
        have KL34 : ∀ (n : Nat) (y3l34 : Int32) (y4l34 : Int32) (σl34 : zM) (H : Heap) (locs : List Loc) (ls : Array Slot), zG D aC A nl ad σl34 s H → va_S A s.heap H locs → lv_has ls 7 [(0, .ref (ad 12 0 0)), (1, .int x1), (2, .int x2), (3, .int y3l34), (4, .int y4l34)] → zwh (fun (q : (Int32 × Int32 × zM)) => f_X12_ask_L34 x1 x2 q.1 q.2.1 q.2.2) n (y3l34, y4l34, σl34) = some t34 → zWk p l e ({ frames := 2, cells := 0, slots := 0, locals := 42 } : Room) s m args below meth c A (some (.int r)) (fun t => zG D aC A nl ad σ' t t.heap ∧ True) H locs (F0 m 34 ls []) := by
          intro n
          induction n with
          | zero =>
            intro y3l34 y4l34 σl34 H locs ls hG hS hl hw
            exact (zwh_0 hw).elim
          | succ n ih34 =>
            intro y3l34 y4l34 σl34 H locs ls hG hS hl hw
            obtain ⟨rr34, hf, hk34⟩ := zwh_u hw
            have hf : f_X12_ask_L34 x1 x2 y3l34 y4l34 σl34 = some rr34 := hf
            unfold f_X12_ask_L34 at hf
            have KJ104_34 : ∀ (y3b104 : Int32) (t0b104 : Int32)  (σb104_34 : zM) (H : Heap) (locs : List Loc) (ls : Array Slot), zG D aC A nl ad σb104_34 s H → va_S A s.heap H locs → lv_has ls 7 [(0, .ref (ad 12 0 0)), (1, .int x1), (2, .int x2), (3, .int y3b104)] → (f_X12_ask_B104_34 σb104_34 x1 x2 y3b104 t0b104) = some rr34 → zWk p l e ({ frames := 2, cells := 0, slots := 0, locals := 42 } : Room) s m args below meth c A (some (.int r)) (fun t => zG D aC A nl ad σ' t t.heap ∧ True) H locs (F0 m 104 ls [.int t0b104]) := by
              intro y3b104 t0b104  σb104_34 H locs ls hG hS hl hf
              unfold f_X12_ask_B104_34 at hf
              refine lv_istore (lv' := [(4, .int t0b104), (0, .ref (ad 12 0 0)), (1, .int x1), (2, .int x2), (3, .int y3b104)]) hx hb dX12_ask_104 hl (by decide) rfl (fun ls hl => ?_)
              refine lv_aload_n hx hb dX12_ask_106 rfl (lv_at hl 1 rfl) ?_
              refine lv_aload_n hx hb dX12_ask_107 rfl (lv_at hl 1 rfl) ?_
              refine z_get (c0 := 12) (i0 := 0) (k0 := 40) (T := TX12) (v := .int (zI σb104_34 12 0 40)) S hG (hZ.2.1 (12, 0) (by decide)) rfl inlX12 (by decide) rfl zw_550 rfl dX12_ask_108 ?_
              refine z_putI (c0 := 12) (i0 := 0) (k0 := 21) (T := TX12) S hG hS tyX12 tyX12_ok nmX12 (hZ.2.1 (12, 0) (by decide)) rfl inlX12 (by decide) rfl rfl zw_512 (by decide +kernel) rfl dX12_ask_111 (fun H locs hG hS => ?_)
              obtain ⟨σ34, eσ34, hf⟩ := zlt_s hf
              rw [← eσ34] at hG
              refine lv_goto (tgt := 34) hx hb dX12_ask_114 (by decide) ?_
              cases hf
              exact ih34 y3b104 t0b104 σ34 H locs ls hG hS (lv_sub hl [1, 2, 3, 4, 0] rfl) hk34
            have KJ103_34 : ∀ (y3b103 : Int32)  (σb103_34 : zM) (H : Heap) (locs : List Loc) (ls : Array Slot), zG D aC A nl ad σb103_34 s H → va_S A s.heap H locs → lv_has ls 7 [(0, .ref (ad 12 0 0)), (1, .int x1), (2, .int x2), (3, .int y3b103)] → (f_X12_ask_B103_34 σb103_34 x1 x2 y3b103) = some rr34 → zWk p l e ({ frames := 2, cells := 0, slots := 0, locals := 42 } : Room) s m args below meth c A (some (.int r)) (fun t => zG D aC A nl ad σ' t t.heap ∧ True) H locs (F0 m 103 ls []) := by
              intro y3b103  σb103_34 H locs ls hG hS hl hf
              unfold f_X12_ask_B103_34 at hf
              refine lv_iconst (v := 0) hx hb dX12_ask_103 (by decide) ?_
              exact KJ104_34 y3b103 0 σb103_34 H locs ls hG hS (lv_sub hl [0, 1, 2, 3] rfl) hf
            refine lv_aload_n hx hb dX12_ask_34 rfl (lv_at hl 0 rfl) ?_
            refine z_get (c0 := 12) (i0 := 0) (k0 := 21) (T := TX12) (v := .int (zI σl34 12 0 21)) S hG (hZ.2.1 (12, 0) (by decide)) rfl inlX12 (by decide) rfl zw_512 rfl dX12_ask_35 ?_
            refine lv_aload_n hx hb dX12_ask_38 rfl (lv_at hl 0 rfl) ?_
            refine z_get (c0 := 12) (i0 := 0) (k0 := 20) (T := TX12) (v := .int (zI σl34 12 0 20)) S hG (hZ.2.1 (12, 0) (by decide)) rfl inlX12 (by decide) rfl zw_513 rfl dX12_ask_39 ?_
            refine lv_icmp_ge (tgt := 117) hx hb dX12_ask_42 (by decide) (fun c29 => ?_) (fun c29 => ?_)
            · have hf := zif_p c29 hf
              cases hf
              have hk34 : ((y3l34, y4l34, σl34) : (Int32 × Int32 × zM)) = t34 := hk34
              have hf := hfo34
              rw [← hk34] at hf
              have hf : (f_X12_ask_B117 σl34 x1 x2 y3l34 y4l34) = some (r, σ') := hf
              exact KJ117 y3l34 y4l34 σl34 H locs ls hG hS (lv_sub hl [0, 1, 2, 3, 4] rfl) hf
            · have hf := zif_n c29 hf
              refine lv_aload_n hx hb dX12_ask_45 rfl (lv_at hl 0 rfl) ?_
              obtain ⟨q30, eq30, hf⟩ := zbi hf
              refine z_callV (n := 0) (rest := []) (st1 := [.long q30.1]) (c0 := 12) (i0 := 0) (hZ.2.1 (12, 0) (by decide)) (by rfl) S hG hS hZ (fun _ _ h => h) (c_X12_word_ l D aC zs A nl ad σl34 q30.1 q30.2 eq30) zw_551 zw_552 zw_553 zw_5 zw_554 (by decide +kernel) ⟨rfl, rfl⟩ ⟨(Nat.le_of_ble_eq_true rfl), (Nat.le_of_ble_eq_true rfl)⟩ hl.1 rfl (by rfl) (by rfl) (Nat.le_of_ble_eq_true rfl) dX12_ask_46 ⟨Nat.zero_le _, Nat.zero_le _⟩ (fun H locs hz31 hG hS => ?_)
              refine lv_lstore (lv' := [(5, .long q30.1), (0, .ref (ad 12 0 0)), (1, .int x1), (2, .int x2), (3, .int y3l34), (4, .int y4l34)]) hx hb dX12_ask_49 hl (by decide) rfl (fun ls hl => ?_)
              refine lv_aload_n hx hb dX12_ask_51 rfl (lv_at hl 1 rfl) ?_
              refine z_get (c0 := 12) (i0 := 0) (k0 := 40) (T := TX12) (v := .int (zI q30.2 12 0 40)) S hG (hZ.2.1 (12, 0) (by decide)) rfl inlX12 (by decide) rfl zw_550 rfl dX12_ask_52 ?_
              refine lv_aload_n hx hb dX12_ask_55 rfl (lv_at hl 1 rfl) ?_
              refine z_get (c0 := 12) (i0 := 0) (k0 := 21) (T := TX12) (v := .int (zI q30.2 12 0 21)) S hG (hZ.2.1 (12, 0) (by decide)) rfl inlX12 (by decide) rfl zw_512 rfl dX12_ask_56 ?_
              refine lv_icmp_ne (tgt := 82) hx hb dX12_ask_59 (by decide) (fun c32 => ?_) (fun c32 => ?_)
              · have hf := zif_n c32 hf
                refine lv_iinc (v := (y3l34 + 1)) (lv' := [(3, .int (y3l34 + 1)), (5, .long q30.1), (0, .ref (ad 12 0 0)), (1, .int x1), (2, .int x2), (4, .int y4l34)]) hx hb dX12_ask_82 hl (k := 4) rfl rfl (by decide) rfl (fun ls hl => ?_)
                refine lv_iload hx hb dX12_ask_85 (lv_at hl 5 rfl) ?_
                refine lv_if_eq (tgt := 103) hx hb dX12_ask_87 (by decide) (fun c33 => ?_) (fun c33 => ?_)
                · have hf := zif_p c33 hf
                  exact KJ103_34 (y3l34 + 1) q30.2 H locs ls hG hS (lv_sub hl [2, 3, 4, 0] rfl) hf
                · have hf := zif_n c33 hf
                  refine lv_aload_n hx hb dX12_ask_90 rfl (lv_at hl 2 rfl) ?_
                  refine lv_lload hx hb dX12_ask_91 (lv_at hl 1 rfl) ?_
                  obtain ⟨r35, er35, hf⟩ := zbi hf
                  refine z_callV (n := 1) (rest := []) (st1 := [.int r35]) (c0 := 12) (i0 := 0) (hZ.2.1 (12, 0) (by decide)) (by rfl) S hG hS hZ (fun _ _ h => h) (c_X12_isCalled l D aC zs A nl ad q30.2 q30.1 r35 er35) zw_1174 zw_1175 zw_1176 zw_5 zw_1177 (by decide +kernel) ⟨rfl, rfl⟩ ⟨(Nat.le_of_ble_eq_true rfl), (Nat.le_of_ble_eq_true rfl)⟩ hl.1 rfl (by rfl) (by rfl) (Nat.le_of_ble_eq_true rfl) dX12_ask_93 ⟨Nat.zero_le _, Nat.zero_le _⟩ (fun H locs hz36 hG hS => ?_)
                  have Kv39 : ∀ (v39 : Int32) (ls : Array Slot), lv_has ls 7 [(3, .int (y3l34 + 1)), (5, .long q30.1), (0, .ref (ad 12 0 0)), (1, .int x1), (2, .int x2), (4, .int y4l34)] → (zlt (zsI q30.2 12 0 21 (zI q30.2 12 0 40)) fun σ41 => some (.inl ((y3l34 + 1), v39, σ41))) = some rr34 → zWk p l e ({ frames := 2, cells := 0, slots := 0, locals := 42 } : Room) s m args below meth c A (some (.int r)) (fun t => zG D aC A nl ad σ' t t.heap ∧ True) H locs (F0 m 104 ls [.int v39]) := by
                    intro v39 ls hl hf
                    refine lv_istore (lv' := [(4, .int v39), (3, .int (y3l34 + 1)), (5, .long q30.1), (0, .ref (ad 12 0 0)), (1, .int x1), (2, .int x2)]) hx hb dX12_ask_104 hl (by decide) rfl (fun ls hl => ?_)
                    refine lv_aload_n hx hb dX12_ask_106 rfl (lv_at hl 3 rfl) ?_
                    refine lv_aload_n hx hb dX12_ask_107 rfl (lv_at hl 3 rfl) ?_
                    refine z_get (c0 := 12) (i0 := 0) (k0 := 40) (T := TX12) (v := .int (zI q30.2 12 0 40)) S hG (hZ.2.1 (12, 0) (by decide)) rfl inlX12 (by decide) rfl zw_550 rfl dX12_ask_108 ?_
                    refine z_putI (c0 := 12) (i0 := 0) (k0 := 21) (T := TX12) S hG hS tyX12 tyX12_ok nmX12 (hZ.2.1 (12, 0) (by decide)) rfl inlX12 (by decide) rfl rfl zw_512 (by decide +kernel) rfl dX12_ask_111 (fun H locs hG hS => ?_)
                    obtain ⟨σ41, eσ41, hf⟩ := zlt_s hf
                    rw [← eσ41] at hG
                    refine lv_goto (tgt := 34) hx hb dX12_ask_114 (by decide) ?_
                    cases hf
                    exact ih34 (y3l34 + 1) v39 σ41 H locs ls hG hS (lv_sub hl [3, 4, 5, 1, 0] rfl) hk34
                  refine lv_if_ne (tgt := 103) hx hb dX12_ask_96 (by decide) (fun c38 => ?_) (fun c38 => ?_)
                  · rw [if_neg c38] at hf
                    refine lv_iconst (v := 0) hx hb dX12_ask_103 (by decide) ?_
                    exact Kv39 _ ls hl hf
                  · rw [if_pos c38] at hf
                    refine lv_iconst (v := 1) hx hb dX12_ask_99 (by decide) ?_
                    refine lv_goto (tgt := 104) hx hb dX12_ask_100 (by decide) ?_
                    exact Kv39 _ ls hl hf
              · have hf := zif_p c32 hf
                refine lv_aload_n hx hb dX12_ask_62 rfl (lv_at hl 1 rfl) ?_
                refine lv_aload_n hx hb dX12_ask_63 rfl (lv_at hl 1 rfl) ?_
                refine z_get (c0 := 12) (i0 := 0) (k0 := 20) (T := TX12) (v := .int (zI q30.2 12 0 20)) S hG (hZ.2.1 (12, 0) (by decide)) rfl inlX12 (by decide) rfl zw_513 rfl dX12_ask_64 ?_
                refine lv_aload_n hx hb dX12_ask_67 rfl (lv_at hl 1 rfl) ?_
                refine z_get (c0 := 12) (i0 := 0) (k0 := 21) (T := TX12) (v := .int (zI q30.2 12 0 21)) S hG (hZ.2.1 (12, 0) (by decide)) rfl inlX12 (by decide) rfl zw_512 rfl dX12_ask_68 ?_
                refine lv_iconst (v := 1) hx hb dX12_ask_71 (by decide) ?_
                refine lv_iadd hx hb dX12_ask_72 ?_
                refine z_mmin (v := (zmin (zI q30.2 12 0 20) ((zI q30.2 12 0 21) + 1))) S hl zw_736 zw_679 zw_91 zw_680 (Nat.le_of_ble_eq_true rfl) (Nat.le_of_ble_eq_true rfl) (Nat.le_of_ble_eq_true rfl) (Nat.zero_le _) (Nat.zero_le _) rfl dX12_ask_73 ?_
                refine z_putI (c0 := 12) (i0 := 0) (k0 := 21) (T := TX12) S hG hS tyX12 tyX12_ok nmX12 (hZ.2.1 (12, 0) (by decide)) rfl inlX12 (by decide) rfl rfl zw_512 (by decide +kernel) rfl dX12_ask_76 (fun H locs hG hS => ?_)
                obtain ⟨σ42, eσ42, hf⟩ := zlt_s hf
                rw [← eσ42] at hG
                refine lv_goto (tgt := 34) hx hb dX12_ask_79 (by decide) ?_
                cases hf
                exact ih34 y3l34 y4l34 σ42 H locs ls hG hS (lv_sub hl [1, 2, 3, 4, 5] rfl) hk34
        exact KL34 zFu 0 1 σ4 H locs ls hG hS (lv_sub hl [2, 3, 4, 1, 0] rfl) hw34
      · have hf := zif_p c3 hf
        refine lv_bipush (v := (-2)) hx hb dX12_ask_21 (by decide) ?_
        obtain ⟨hq1, hq2⟩ := Prod.mk.inj (Option.some.inj hf)
        subst hq1
        subst hq2
        exact z_iret S hG hS hlocks trivial hr dX12_ask_23
  exact hK0 _ _ ls hG hS hl hf
set_option maxRecDepth 100000 in
set_option maxHeartbeats 4000000 in
theorem c_X12_answered (l : Launch) (D : va_G) (aC : Nat → ClassId) (zs : Nat × Nat) (A : Nat → Prop) (nl : zNL) (ad : Nat → Nat → Nat → Nat) (σ : zM) (x1 : Int32) (x2 : Int32) (r : Int32)  (hf : f_X12_answered σ x1 x2 = some r) : Met l yX12_answered (Cond.code yX12_answered cX12_answered 3 (some .int) :: wsL_law) ({ frames := 1, cells := 0, slots := 0, locals := 22 } : Room) (zP D aC zs zfM A nl ad σ [.ref (ad 12 0 0), .int x1, .int x2]) (zQ (some (.int r)) (fun t => zG D aC A nl ad σ t t.heap ∧ True) A) 0 0 A := by
  refine Met.ofW (cc := cX12_answered) (maxL := 3) (ret := (some .int)) (by decide) rfl ?_
  intro p e s m args below meth c s₁ B hml hv
  obtain ⟨rfl, hG, hZ⟩ := hv
  have hx := B.exec
  have hb := B.bytes
  have hr := B.returns
  have hts : ∀ w ∈ wsL_law, w.before ([.ref (ad 12 0 0), .int x1, .int x2] : List Value).toArray s = true := fun w h => (atoms_spec B.pre) w (List.mem_cons_of_mem _ h)
  have hown : s.vm.findClass RX12 = some m.cls := findClass_of_methodNamed B.named
  have hlocks := B.notSynchronized
  have S : zS p m c cX12_answered 3 s ([.ref (ad 12 0 0), .int x1, .int x2] : List Value).toArray RX12 := ⟨hx, hb, hml, hown, hts⟩
  have hS : va_S A s.heap s.heap [] := va_S.rf
  have hl := lv_entry ([.ref (ad 12 0 0), .int x1, .int x2]) (n := 3) (Nat.le_of_ble_eq_true rfl)
  rw [lg_entry_eq]
  generalize (lg_sl ([.ref (ad 12 0 0), .int x1, .int x2]) ++ List.replicate (3 - (lg_sl ([.ref (ad 12 0 0), .int x1, .int x2])).length) Slot.unset).toArray = ls at hl ⊢
  have hl : lv_has ls 3 [(0, .ref (ad 12 0 0)), (1, .int x1), (2, .int x2)] := hl
  generalize hargs : ([.ref (ad 12 0 0), .int x1, .int x2] : List Value).toArray = args at S hts ⊢
  clear hargs
  have hK0 : ∀ (H : Heap) (locs : List Loc) (ls : Array Slot), zG D aC A nl ad σ s H → va_S A s.heap H locs → lv_has ls 3 [(0, .ref (ad 12 0 0)), (1, .int x1), (2, .int x2)] → f_X12_answered σ x1 x2 = some r → zWk p l e ({ frames := 1, cells := 0, slots := 0, locals := 22 } : Room) s m args below meth c A (some (.int r)) (fun t => zG D aC A nl ad σ t t.heap ∧ True) H locs (F0 m 0 ls []) := by
    intro H locs ls hG hS hl hf
    unfold f_X12_answered at hf
    refine lv_iload_n hx hb dX12_answered_0 rfl (lv_at hl 1 rfl) ?_
    refine lv_iconst (v := 0) hx hb dX12_answered_1 (by decide) ?_
    refine lv_aload_n hx hb dX12_answered_2 rfl (lv_at hl 0 rfl) ?_
    refine z_get (c0 := 12) (i0 := 0) (k0 := 43) (T := TX12) (v := .int (zI σ 12 0 43)) S hG (hZ.2.1 (12, 0) (by decide)) rfl inlX12 (by decide) rfl zw_1172 rfl dX12_answered_3 ?_
    refine lv_iconst (v := 1) hx hb dX12_answered_6 (by decide) ?_
    refine lv_isub hx hb dX12_answered_7 ?_
    refine z_callS (n := 3) (rest := []) (st1 := [.int (f_X12_isIn x1 0 ((zI σ 12 0 43) - 1))]) S hG hS hZ (fun _ _ h => h) (c_X12_isIn l D aC zs A nl ad σ x1 0 ((zI σ 12 0 43) - 1) (f_X12_isIn x1 0 ((zI σ 12 0 43) - 1)) rfl) zw_514 zw_515 zw_5 zw_516 (by decide +kernel) ⟨rfl, rfl⟩ ⟨(Nat.le_of_ble_eq_true rfl), (Nat.le_of_ble_eq_true rfl)⟩ hl.1 rfl (by rfl) (by rfl) (Nat.le_of_ble_eq_true rfl) dX12_answered_8 ⟨Nat.zero_le _, Nat.zero_le _⟩ (fun H locs hz1 hG hS => ?_)
    refine lv_if_ne (tgt := 16) hx hb dX12_answered_11 (by decide) (fun c2 => ?_) (fun c2 => ?_)
    · have hf := zif_n c2 hf
      refine lv_iload_n hx hb dX12_answered_16 rfl (lv_at hl 2 rfl) ?_
      refine lv_if_ne (tgt := 29) hx hb dX12_answered_17 (by decide) (fun c3 => ?_) (fun c3 => ?_)
      · have hf := zif_n c3 hf
        refine lv_iload_n hx hb dX12_answered_29 rfl (lv_at hl 2 rfl) ?_
        refine lv_iconst (v := 1) hx hb dX12_answered_30 (by decide) ?_
        refine lv_icmp_ne (tgt := 43) hx hb dX12_answered_31 (by decide) (fun c4 => ?_) (fun c4 => ?_)
        · have hf := zif_n c4 hf
          refine lv_iload_n hx hb dX12_answered_43 rfl (lv_at hl 2 rfl) ?_
          refine lv_iconst (v := 2) hx hb dX12_answered_44 (by decide) ?_
          refine lv_icmp_ne (tgt := 57) hx hb dX12_answered_45 (by decide) (fun c5 => ?_) (fun c5 => ?_)
          · have hf := zif_n c5 hf
            refine lv_iconst (v := (-1)) hx hb dX12_answered_57 (by decide) ?_
            have hq := (Option.some.inj hf)
            subst hq
            exact z_iret S hG hS hlocks trivial hr dX12_answered_58
          · have hf := zif_p c5 hf
            refine lv_aload_n hx hb dX12_answered_48 rfl (lv_at hl 0 rfl) ?_
            refine z_get (c0 := 12) (i0 := 0) (k0 := 47) (T := TX12) (v := .ref (ad 12 0 48)) S hG (hZ.2.1 (12, 0) (by decide)) rfl inlX12 (by decide) rfl zw_256 rfl dX12_answered_49 ?_
            refine lv_iload_n hx hb dX12_answered_52 rfl (lv_at hl 1 rfl) ?_
            obtain ⟨i6, hi6, hf⟩ := zbi hf
            refine z_iald (c0 := 12) (i0 := 0) (k0 := 47) S hG (hZ.2.1 (12, 0) (by decide)) (by decide) rfl hi6 dX12_answered_53 ?_
            refine lv_goto (tgt := 58) hx hb dX12_answered_54 (by decide) ?_
            have hq := (Option.some.inj hf)
            subst hq
            exact z_iret S hG hS hlocks trivial hr dX12_answered_58
        · have hf := zif_p c4 hf
          refine lv_aload_n hx hb dX12_answered_34 rfl (lv_at hl 0 rfl) ?_
          refine z_get (c0 := 12) (i0 := 0) (k0 := 46) (T := TX12) (v := .ref (ad 12 0 47)) S hG (hZ.2.1 (12, 0) (by decide)) rfl inlX12 (by decide) rfl zw_255 rfl dX12_answered_35 ?_
          refine lv_iload_n hx hb dX12_answered_38 rfl (lv_at hl 1 rfl) ?_
          obtain ⟨i7, hi7, hf⟩ := zbi hf
          refine z_iald (c0 := 12) (i0 := 0) (k0 := 46) S hG (hZ.2.1 (12, 0) (by decide)) (by decide) rfl hi7 dX12_answered_39 ?_
          refine lv_goto (tgt := 58) hx hb dX12_answered_40 (by decide) ?_
          have hq := (Option.some.inj hf)
          subst hq
          exact z_iret S hG hS hlocks trivial hr dX12_answered_58
      · have hf := zif_p c3 hf
        refine lv_aload_n hx hb dX12_answered_20 rfl (lv_at hl 0 rfl) ?_
        refine z_get (c0 := 12) (i0 := 0) (k0 := 45) (T := TX12) (v := .ref (ad 12 0 46)) S hG (hZ.2.1 (12, 0) (by decide)) rfl inlX12 (by decide) rfl zw_254 rfl dX12_answered_21 ?_
        refine lv_iload_n hx hb dX12_answered_24 rfl (lv_at hl 1 rfl) ?_
        obtain ⟨i8, hi8, hf⟩ := zbi hf
        refine z_iald (c0 := 12) (i0 := 0) (k0 := 45) S hG (hZ.2.1 (12, 0) (by decide)) (by decide) rfl hi8 dX12_answered_25 ?_
        refine lv_goto (tgt := 58) hx hb dX12_answered_26 (by decide) ?_
        have hq := (Option.some.inj hf)
        subst hq
        exact z_iret S hG hS hlocks trivial hr dX12_answered_58
    · have hf := zif_p c2 hf
      refine lv_iconst (v := (-1)) hx hb dX12_answered_14 (by decide) ?_
      have hq := (Option.some.inj hf)
      subst hq
      exact z_iret S hG hS hlocks trivial hr dX12_answered_15
  exact hK0 _ _ ls hG hS hl hf
set_option maxRecDepth 100000 in
set_option maxHeartbeats 4000000 in
theorem c_X12_juror (l : Launch) (D : va_G) (aC : Nat → ClassId) (zs : Nat × Nat) (A : Nat → Prop) (nl : zNL) (ad : Nat → Nat → Nat → Nat) (σ : zM)  (r : Int32) (σ' : zM)  (hf : f_X12_juror σ = (r, σ')) : Met l yX12_juror (Cond.code yX12_juror cX12_juror 1 (some .int) :: wsL_law) ({ frames := 0, cells := 0, slots := 0, locals := 0 } : Room) (zP D aC zs zfM A nl ad σ [.ref (ad 12 0 0)]) (zQ (some (.int r)) (fun t => zG D aC A nl ad σ' t t.heap ∧ True) A) 0 0 A := by
  refine Met.ofW (cc := cX12_juror) (maxL := 1) (ret := (some .int)) (by decide) rfl ?_
  intro p e s m args below meth c s₁ B hml hv
  obtain ⟨rfl, hG, hZ⟩ := hv
  have hx := B.exec
  have hb := B.bytes
  have hr := B.returns
  have hts : ∀ w ∈ wsL_law, w.before ([.ref (ad 12 0 0)] : List Value).toArray s = true := fun w h => (atoms_spec B.pre) w (List.mem_cons_of_mem _ h)
  have hown : s.vm.findClass RX12 = some m.cls := findClass_of_methodNamed B.named
  have hlocks := B.notSynchronized
  have S : zS p m c cX12_juror 1 s ([.ref (ad 12 0 0)] : List Value).toArray RX12 := ⟨hx, hb, hml, hown, hts⟩
  have hS : va_S A s.heap s.heap [] := va_S.rf
  have hl := lv_entry ([.ref (ad 12 0 0)]) (n := 1) (Nat.le_of_ble_eq_true rfl)
  rw [lg_entry_eq]
  generalize (lg_sl ([.ref (ad 12 0 0)]) ++ List.replicate (1 - (lg_sl ([.ref (ad 12 0 0)])).length) Slot.unset).toArray = ls at hl ⊢
  have hl : lv_has ls 1 [(0, .ref (ad 12 0 0))] := hl
  generalize hargs : ([.ref (ad 12 0 0)] : List Value).toArray = args at S hts ⊢
  clear hargs
  have hK0 : ∀ (H : Heap) (locs : List Loc) (ls : Array Slot), zG D aC A nl ad σ s H → va_S A s.heap H locs → lv_has ls 1 [(0, .ref (ad 12 0 0))] → f_X12_juror σ = (r, σ') → zWk p l e ({ frames := 0, cells := 0, slots := 0, locals := 0 } : Room) s m args below meth c A (some (.int r)) (fun t => zG D aC A nl ad σ' t t.heap ∧ True) H locs (F0 m 0 ls []) := by
    intro H locs ls hG hS hl hf
    unfold f_X12_juror at hf
    refine lv_aload_n hx hb dX12_juror_0 rfl (lv_at hl 0 rfl) ?_
    refine z_get (c0 := 12) (i0 := 0) (k0 := 48) (T := TX12) (v := .int (zI σ 12 0 48)) S hG (hZ.2.1 (12, 0) (by decide)) rfl inlX12 (by decide) rfl zw_1202 rfl dX12_juror_1 ?_
    refine lv_bipush (v := 7) hx hb dX12_juror_4 (by decide) ?_
    refine lv_icmp_ne (tgt := 11) hx hb dX12_juror_6 (by decide) (fun c1 => ?_) (fun c1 => ?_)
    · have hf := zif_n c1 hf
      refine lv_aload_n hx hb dX12_juror_11 rfl (lv_at hl 0 rfl) ?_
      refine lv_dup hx hb dX12_juror_12 rfl ?_
      refine z_get (c0 := 12) (i0 := 0) (k0 := 48) (T := TX12) (v := .int (zI σ 12 0 48)) S hG (hZ.2.1 (12, 0) (by decide)) rfl inlX12 (by decide) rfl zw_1202 rfl dX12_juror_13 ?_
      refine lv_iconst (v := 1) hx hb dX12_juror_16 (by decide) ?_
      refine lv_iadd hx hb dX12_juror_17 ?_
      refine z_putI (c0 := 12) (i0 := 0) (k0 := 48) (T := TX12) S hG hS tyX12 tyX12_ok nmX12 (hZ.2.1 (12, 0) (by decide)) rfl inlX12 (by decide) rfl rfl zw_1202 (by decide +kernel) rfl dX12_juror_18 (fun H locs hG hS => ?_)
      obtain ⟨σ2, eσ2, hf⟩ := zlt_s hf
      rw [← eσ2] at hG
      refine lv_aload_n hx hb dX12_juror_21 rfl (lv_at hl 0 rfl) ?_
      refine z_get (c0 := 12) (i0 := 0) (k0 := 48) (T := TX12) (v := .int (zI σ2 12 0 48)) S hG (hZ.2.1 (12, 0) (by decide)) rfl inlX12 (by decide) rfl zw_1202 rfl dX12_juror_22 ?_
      refine lv_iconst (v := 1) hx hb dX12_juror_25 (by decide) ?_
      refine lv_isub hx hb dX12_juror_26 ?_
      obtain ⟨hq1, hq2⟩ := Prod.mk.inj hf
      subst hq1
      subst hq2
      exact z_iret S hG hS hlocks trivial hr dX12_juror_27
    · have hf := zif_p c1 hf
      refine lv_iconst (v := (-1)) hx hb dX12_juror_9 (by decide) ?_
      obtain ⟨hq1, hq2⟩ := Prod.mk.inj hf
      subst hq1
      subst hq2
      exact z_iret S hG hS hlocks trivial hr dX12_juror_10
  exact hK0 _ _ ls hG hS hl hf
set_option maxRecDepth 100000 in
set_option maxHeartbeats 4000000 in
theorem c_X12_isJuror (l : Launch) (D : va_G) (aC : Nat → ClassId) (zs : Nat × Nat) (A : Nat → Prop) (nl : zNL) (ad : Nat → Nat → Nat → Nat) (σ : zM) (x1 : Int32) (r : Int32)  (hf : f_X12_isJuror σ x1 = r) : Met l yX12_isJuror (Cond.code yX12_isJuror cX12_isJuror 2 (some .boolean) :: wsL_law) ({ frames := 1, cells := 0, slots := 0, locals := 22 } : Room) (zP D aC zs zfM A nl ad σ [.ref (ad 12 0 0), .int x1]) (zQ (some (.int r)) (fun t => zG D aC A nl ad σ t t.heap ∧ (r = 0 ∨ r = 1)) A) 0 0 A := by
  refine Met.ofW (cc := cX12_isJuror) (maxL := 2) (ret := (some .boolean)) (by decide) rfl ?_
  intro p e s m args below meth c s₁ B hml hv
  obtain ⟨rfl, hG, hZ⟩ := hv
  have hx := B.exec
  have hb := B.bytes
  have hr := B.returns
  have hts : ∀ w ∈ wsL_law, w.before ([.ref (ad 12 0 0), .int x1] : List Value).toArray s = true := fun w h => (atoms_spec B.pre) w (List.mem_cons_of_mem _ h)
  have hown : s.vm.findClass RX12 = some m.cls := findClass_of_methodNamed B.named
  have hlocks := B.notSynchronized
  have S : zS p m c cX12_isJuror 2 s ([.ref (ad 12 0 0), .int x1] : List Value).toArray RX12 := ⟨hx, hb, hml, hown, hts⟩
  have hS : va_S A s.heap s.heap [] := va_S.rf
  have hl := lv_entry ([.ref (ad 12 0 0), .int x1]) (n := 2) (Nat.le_of_ble_eq_true rfl)
  rw [lg_entry_eq]
  generalize (lg_sl ([.ref (ad 12 0 0), .int x1]) ++ List.replicate (2 - (lg_sl ([.ref (ad 12 0 0), .int x1])).length) Slot.unset).toArray = ls at hl ⊢
  have hl : lv_has ls 2 [(0, .ref (ad 12 0 0)), (1, .int x1)] := hl
  generalize hargs : ([.ref (ad 12 0 0), .int x1] : List Value).toArray = args at S hts ⊢
  clear hargs
  have hK0 : ∀ (H : Heap) (locs : List Loc) (ls : Array Slot), zG D aC A nl ad σ s H → va_S A s.heap H locs → lv_has ls 2 [(0, .ref (ad 12 0 0)), (1, .int x1)] → f_X12_isJuror σ x1 = r → zWk p l e ({ frames := 1, cells := 0, slots := 0, locals := 22 } : Room) s m args below meth c A (some (.int r)) (fun t => zG D aC A nl ad σ t t.heap ∧ (r = 0 ∨ r = 1)) H locs (F0 m 0 ls []) := by
    intro H locs ls hG hS hl hf
    unfold f_X12_isJuror at hf
    refine lv_iload_n hx hb dX12_isJuror_0 rfl (lv_at hl 1 rfl) ?_
    refine lv_iconst (v := 0) hx hb dX12_isJuror_1 (by decide) ?_
    refine lv_aload_n hx hb dX12_isJuror_2 rfl (lv_at hl 0 rfl) ?_
    refine z_get (c0 := 12) (i0 := 0) (k0 := 48) (T := TX12) (v := .int (zI σ 12 0 48)) S hG (hZ.2.1 (12, 0) (by decide)) rfl inlX12 (by decide) rfl zw_1202 rfl dX12_isJuror_3 ?_
    refine lv_iconst (v := 1) hx hb dX12_isJuror_6 (by decide) ?_
    refine lv_isub hx hb dX12_isJuror_7 ?_
    refine z_callS (n := 3) (rest := []) (st1 := [.int (f_X12_isIn x1 0 ((zI σ 12 0 48) - 1))]) S hG hS hZ (fun _ _ h => h) (c_X12_isIn l D aC zs A nl ad σ x1 0 ((zI σ 12 0 48) - 1) (f_X12_isIn x1 0 ((zI σ 12 0 48) - 1)) rfl) zw_514 zw_515 zw_5 zw_516 (by decide +kernel) ⟨rfl, rfl⟩ ⟨(Nat.le_of_ble_eq_true rfl), (Nat.le_of_ble_eq_true rfl)⟩ hl.1 rfl (by rfl) (by rfl) (Nat.le_of_ble_eq_true rfl) dX12_isJuror_8 ⟨Nat.zero_le _, Nat.zero_le _⟩ (fun H locs hz1 hG hS => ?_)
    have hq := hf
    subst hq
    exact z_zret S hG hS hlocks hz1 hr dX12_isJuror_11
  exact hK0 _ _ ls hG hS hl hf
set_option maxRecDepth 100000 in
set_option maxHeartbeats 4000000 in
theorem c_X12_knows (l : Launch) (D : va_G) (aC : Nat → ClassId) (zs : Nat × Nat) (A : Nat → Prop) (nl : zNL) (ad : Nat → Nat → Nat → Nat) (σ : zM) (x1 : Int32) (x2 : Int32) (x3 : Int32) (r : Int32) (σ' : zM)  (hf : f_X12_knows σ x1 x2 x3 = some (r, σ')) : Met l yX12_knows (Cond.code yX12_knows cX12_knows 4 (some .boolean) :: wsL_law) ({ frames := 2, cells := 0, slots := 0, locals := 43 } : Room) (zP D aC zs zfM A nl ad σ [.ref (ad 12 0 0), .int x1, .int x2, .int x3]) (zQ (some (.int r)) (fun t => zG D aC A nl ad σ' t t.heap ∧ (r = 0 ∨ r = 1)) A) 0 0 A := by
  refine Met.ofW (cc := cX12_knows) (maxL := 4) (ret := (some .boolean)) (by decide) rfl ?_
  intro p e s m args below meth c s₁ B hml hv
  obtain ⟨rfl, hG, hZ⟩ := hv
  have hx := B.exec
  have hb := B.bytes
  have hr := B.returns
  have hts : ∀ w ∈ wsL_law, w.before ([.ref (ad 12 0 0), .int x1, .int x2, .int x3] : List Value).toArray s = true := fun w h => (atoms_spec B.pre) w (List.mem_cons_of_mem _ h)
  have hown : s.vm.findClass RX12 = some m.cls := findClass_of_methodNamed B.named
  have hlocks := B.notSynchronized
  have S : zS p m c cX12_knows 4 s ([.ref (ad 12 0 0), .int x1, .int x2, .int x3] : List Value).toArray RX12 := ⟨hx, hb, hml, hown, hts⟩
  have hS : va_S A s.heap s.heap [] := va_S.rf
  have hl := lv_entry ([.ref (ad 12 0 0), .int x1, .int x2, .int x3]) (n := 4) (Nat.le_of_ble_eq_true rfl)
  rw [lg_entry_eq]
  generalize (lg_sl ([.ref (ad 12 0 0), .int x1, .int x2, .int x3]) ++ List.replicate (4 - (lg_sl ([.ref (ad 12 0 0), .int x1, .int x2, .int x3])).length) Slot.unset).toArray = ls at hl ⊢
  have hl : lv_has ls 4 [(0, .ref (ad 12 0 0)), (1, .int x1), (2, .int x2), (3, .int x3)] := hl
  generalize hargs : ([.ref (ad 12 0 0), .int x1, .int x2, .int x3] : List Value).toArray = args at S hts ⊢
  clear hargs
  have hK0 : ∀ (H : Heap) (locs : List Loc) (ls : Array Slot), zG D aC A nl ad σ s H → va_S A s.heap H locs → lv_has ls 4 [(0, .ref (ad 12 0 0)), (1, .int x1), (2, .int x2), (3, .int x3)] → f_X12_knows σ x1 x2 x3 = some (r, σ') → zWk p l e ({ frames := 2, cells := 0, slots := 0, locals := 43 } : Room) s m args below meth c A (some (.int r)) (fun t => zG D aC A nl ad σ' t t.heap ∧ (r = 0 ∨ r = 1)) H locs (F0 m 0 ls []) := by
    intro H locs ls hG hS hl hf
    unfold f_X12_knows at hf
    refine lv_aload_n hx hb dX12_knows_0 rfl (lv_at hl 0 rfl) ?_
    refine lv_iload_n hx hb dX12_knows_1 rfl (lv_at hl 1 rfl) ?_
    refine z_callV (n := 1) (rest := []) (st1 := [.int (f_X12_isJuror σ x1)]) (c0 := 12) (i0 := 0) (hZ.2.1 (12, 0) (by decide)) (by rfl) S hG hS hZ (fun _ _ h => h) (c_X12_isJuror l D aC zs A nl ad σ x1 (f_X12_isJuror σ x1) rfl) zw_1220 zw_1221 zw_1222 zw_5 zw_1223 (by decide +kernel) ⟨rfl, rfl⟩ ⟨(Nat.le_of_ble_eq_true rfl), (Nat.le_of_ble_eq_true rfl)⟩ hl.1 rfl (by rfl) (by rfl) (Nat.le_of_ble_eq_true rfl) dX12_knows_2 ⟨Nat.zero_le _, Nat.zero_le _⟩ (fun H locs hz1 hG hS => ?_)
    refine lv_if_eq (tgt := 25) hx hb dX12_knows_5 (by decide) (fun c2 => ?_) (fun c2 => ?_)
    · have hf := zif_p c2 hf
      refine lv_iconst (v := 0) hx hb dX12_knows_25 (by decide) ?_
      obtain ⟨hq1, hq2⟩ := Prod.mk.inj (Option.some.inj hf)
      subst hq1
      subst hq2
      exact z_zret S hG hS hlocks (Or.inl rfl) hr dX12_knows_26
    · have hf := zif_n c2 hf
      refine lv_iload_n hx hb dX12_knows_8 rfl (lv_at hl 2 rfl) ?_
      refine lv_iconst (v := 0) hx hb dX12_knows_9 (by decide) ?_
      refine lv_bipush (v := 39) hx hb dX12_knows_10 (by decide) ?_
      refine z_callS (n := 3) (rest := []) (st1 := [.int (f_X12_isIn x2 0 39)]) S hG hS hZ (fun _ _ h => h) (c_X12_isIn l D aC zs A nl ad σ x2 0 39 (f_X12_isIn x2 0 39) rfl) zw_514 zw_515 zw_5 zw_516 (by decide +kernel) ⟨rfl, rfl⟩ ⟨(Nat.le_of_ble_eq_true rfl), (Nat.le_of_ble_eq_true rfl)⟩ hl.1 rfl (by rfl) (by rfl) (Nat.le_of_ble_eq_true rfl) dX12_knows_12 ⟨Nat.zero_le _, Nat.zero_le _⟩ (fun H locs hz3 hG hS => ?_)
      refine lv_if_eq (tgt := 25) hx hb dX12_knows_15 (by decide) (fun c4 => ?_) (fun c4 => ?_)
      · have hf := zif_p c4 hf
        refine lv_iconst (v := 0) hx hb dX12_knows_25 (by decide) ?_
        obtain ⟨hq1, hq2⟩ := Prod.mk.inj (Option.some.inj hf)
        subst hq1
        subst hq2
        exact z_zret S hG hS hlocks (Or.inl rfl) hr dX12_knows_26
      · have hf := zif_n c4 hf
        refine lv_iload_n hx hb dX12_knows_18 rfl (lv_at hl 3 rfl) ?_
        refine z_callS (n := 1) (rest := []) (st1 := [.int (f_X12_isDay x3)]) S hG hS hZ (fun _ _ h => h) (c_X12_isDay l D aC zs A nl ad σ x3 (f_X12_isDay x3) rfl) zw_685 zw_686 zw_5 zw_687 (by decide +kernel) ⟨rfl, rfl⟩ ⟨(Nat.le_of_ble_eq_true rfl), (Nat.le_of_ble_eq_true rfl)⟩ hl.1 rfl (by rfl) (by rfl) (Nat.le_of_ble_eq_true rfl) dX12_knows_19 ⟨Nat.zero_le _, Nat.zero_le _⟩ (fun H locs hz5 hG hS => ?_)
        refine lv_if_ne (tgt := 27) hx hb dX12_knows_22 (by decide) (fun c6 => ?_) (fun c6 => ?_)
        · have hf := zif_n c6 hf
          refine lv_aload_n hx hb dX12_knows_27 rfl (lv_at hl 0 rfl) ?_
          refine z_get (c0 := 12) (i0 := 0) (k0 := 55) (T := TX12) (v := .ref (ad 12 0 56)) S hG (hZ.2.1 (12, 0) (by decide)) rfl inlX12 (by decide) rfl zw_257 rfl dX12_knows_28 ?_
          refine lv_bipush (v := 40) hx hb dX12_knows_31 (by decide) ?_
          refine lv_iload_n hx hb dX12_knows_33 rfl (lv_at hl 1 rfl) ?_
          refine lv_imul hx hb dX12_knows_34 ?_
          refine lv_iload_n hx hb dX12_knows_35 rfl (lv_at hl 2 rfl) ?_
          refine lv_iadd hx hb dX12_knows_36 ?_
          refine lv_iload_n hx hb dX12_knows_37 rfl (lv_at hl 3 rfl) ?_
          refine lv_aload_n hx hb dX12_knows_38 rfl (lv_at hl 0 rfl) ?_
          refine z_get (c0 := 12) (i0 := 0) (k0 := 55) (T := TX12) (v := .ref (ad 12 0 56)) S hG (hZ.2.1 (12, 0) (by decide)) rfl inlX12 (by decide) rfl zw_257 rfl dX12_knows_39 ?_
          refine lv_bipush (v := 40) hx hb dX12_knows_42 (by decide) ?_
          refine lv_iload_n hx hb dX12_knows_44 rfl (lv_at hl 1 rfl) ?_
          refine lv_imul hx hb dX12_knows_45 ?_
          refine lv_iload_n hx hb dX12_knows_46 rfl (lv_at hl 2 rfl) ?_
          refine lv_iadd hx hb dX12_knows_47 ?_
          obtain ⟨i7, hi7, hf⟩ := zbi hf
          refine z_iald (c0 := 12) (i0 := 0) (k0 := 55) S hG (hZ.2.1 (12, 0) (by decide)) (by decide) rfl hi7 dX12_knows_48 ?_
          refine z_mmin (v := (zmin x3 (zA σ 12 0 55 i7))) S hl zw_736 zw_679 zw_91 zw_680 (Nat.le_of_ble_eq_true rfl) (Nat.le_of_ble_eq_true rfl) (Nat.le_of_ble_eq_true rfl) (Nat.zero_le _) (Nat.zero_le _) rfl dX12_knows_49 ?_
          obtain ⟨i8, hi8, hf⟩ := zbi hf
          refine z_iast (c0 := 12) (i0 := 0) (k0 := 55) S hG hS (hZ.2.1 (12, 0) (by decide)) (by decide) rfl hi8 dX12_knows_52 (fun H locs hG hS => ?_)
          obtain ⟨σ9, eσ9, hf⟩ := zlt_s hf
          rw [← eσ9] at hG
          refine lv_iconst (v := 1) hx hb dX12_knows_53 (by decide) ?_
          obtain ⟨hq1, hq2⟩ := Prod.mk.inj (Option.some.inj hf)
          subst hq1
          subst hq2
          exact z_zret S hG hS hlocks (Or.inr rfl) hr dX12_knows_54
        · have hf := zif_p c6 hf
          refine lv_iconst (v := 0) hx hb dX12_knows_25 (by decide) ?_
          obtain ⟨hq1, hq2⟩ := Prod.mk.inj (Option.some.inj hf)
          subst hq1
          subst hq2
          exact z_zret S hG hS hlocks (Or.inl rfl) hr dX12_knows_26
  exact hK0 _ _ ls hG hS hl hf
set_option maxRecDepth 100000 in
set_option maxHeartbeats 4000000 in
theorem c_X12_seat (l : Launch) (D : va_G) (aC : Nat → ClassId) (zs : Nat × Nat) (A : Nat → Prop) (nl : zNL) (ad : Nat → Nat → Nat → Nat) (σ : zM) (x0 : Int32) (x1 : Int32) (r : Int32)  (hf : f_X12_seat x0 x1 = r) : Met l yX12_seat (Cond.code yX12_seat cX12_seat 2 (some .int) :: wsL_law) ({ frames := 0, cells := 0, slots := 0, locals := 0 } : Room) (zP D aC zs zfM A nl ad σ [.int x0, .int x1]) (zQ (some (.int r)) (fun t => zG D aC A nl ad σ t t.heap ∧ True) A) 0 0 A := by
  refine Met.ofW (cc := cX12_seat) (maxL := 2) (ret := (some .int)) (by decide) rfl ?_
  intro p e s m args below meth c s₁ B hml hv
  obtain ⟨rfl, hG, hZ⟩ := hv
  have hx := B.exec
  have hb := B.bytes
  have hr := B.returns
  have hts : ∀ w ∈ wsL_law, w.before ([.int x0, .int x1] : List Value).toArray s = true := fun w h => (atoms_spec B.pre) w (List.mem_cons_of_mem _ h)
  have hown : s.vm.findClass RX12 = some m.cls := findClass_of_methodNamed B.named
  have hlocks := B.notSynchronized
  have S : zS p m c cX12_seat 2 s ([.int x0, .int x1] : List Value).toArray RX12 := ⟨hx, hb, hml, hown, hts⟩
  have hS : va_S A s.heap s.heap [] := va_S.rf
  have hl := lv_entry ([.int x0, .int x1]) (n := 2) (Nat.le_of_ble_eq_true rfl)
  rw [lg_entry_eq]
  generalize (lg_sl ([.int x0, .int x1]) ++ List.replicate (2 - (lg_sl ([.int x0, .int x1])).length) Slot.unset).toArray = ls at hl ⊢
  have hl : lv_has ls 2 [(0, .int x0), (1, .int x1)] := hl
  generalize hargs : ([.int x0, .int x1] : List Value).toArray = args at S hts ⊢
  clear hargs
  have hK0 : ∀ (H : Heap) (locs : List Loc) (ls : Array Slot), zG D aC A nl ad σ s H → va_S A s.heap H locs → lv_has ls 2 [(0, .int x0), (1, .int x1)] → f_X12_seat x0 x1 = r → zWk p l e ({ frames := 0, cells := 0, slots := 0, locals := 0 } : Room) s m args below meth c A (some (.int r)) (fun t => zG D aC A nl ad σ t t.heap ∧ True) H locs (F0 m 0 ls []) := by
    intro H locs ls hG hS hl hf
    unfold f_X12_seat at hf
    refine lv_bipush (v := 7) hx hb dX12_seat_0 (by decide) ?_
    refine lv_iload_n hx hb dX12_seat_2 rfl (lv_at hl 0 rfl) ?_
    refine lv_imul hx hb dX12_seat_3 ?_
    refine lv_iload_n hx hb dX12_seat_4 rfl (lv_at hl 1 rfl) ?_
    refine lv_iadd hx hb dX12_seat_5 ?_
    have hq := hf
    subst hq
    exact z_iret S hG hS hlocks trivial hr dX12_seat_6
  exact hK0 _ _ ls hG hS hl hf
set_option maxRecDepth 100000 in
set_option maxHeartbeats 4000000 in
theorem c_X12_marks (l : Launch) (D : va_G) (aC : Nat → ClassId) (zs : Nat × Nat) (A : Nat → Prop) (nl : zNL) (ad : Nat → Nat → Nat → Nat) (σ : zM) (x1 : Int32) (x2 : Int64) (r : Int32) (σ' : zM)  (hf : f_X12_marks σ x1 x2 = some (r, σ')) : Met l yX12_marks (Cond.code yX12_marks cX12_marks 8 (some .int) :: wsL_law) ({ frames := 2, cells := 0, slots := 0, locals := 43 } : Room) (zP D aC zs zfM A nl ad σ [.ref (ad 12 0 0), .int x1, .long x2]) (zQ (some (.int r)) (fun t => zG D aC A nl ad σ' t t.heap ∧ True) A) 0 0 A := by
  refine Met.ofW (cc := cX12_marks) (maxL := 8) (ret := (some .int)) (by decide) rfl ?_
  intro p e s m args below meth c s₁ B hml hv
  obtain ⟨rfl, hG, hZ⟩ := hv
  have hx := B.exec
  have hb := B.bytes
  have hr := B.returns
  have hts : ∀ w ∈ wsL_law, w.before ([.ref (ad 12 0 0), .int x1, .long x2] : List Value).toArray s = true := fun w h => (atoms_spec B.pre) w (List.mem_cons_of_mem _ h)
  have hown : s.vm.findClass RX12 = some m.cls := findClass_of_methodNamed B.named
  have hlocks := B.notSynchronized
  have S : zS p m c cX12_marks 8 s ([.ref (ad 12 0 0), .int x1, .long x2] : List Value).toArray RX12 := ⟨hx, hb, hml, hown, hts⟩
  have hS : va_S A s.heap s.heap [] := va_S.rf
  have hl := lv_entry ([.ref (ad 12 0 0), .int x1, .long x2]) (n := 8) (Nat.le_of_ble_eq_true rfl)
  rw [lg_entry_eq]
  generalize (lg_sl ([.ref (ad 12 0 0), .int x1, .long x2]) ++ List.replicate (8 - (lg_sl ([.ref (ad 12 0 0), .int x1, .long x2])).length) Slot.unset).toArray = ls at hl ⊢
  have hl : lv_has ls 8 [(0, .ref (ad 12 0 0)), (1, .int x1), (2, .long x2)] := hl
  generalize hargs : ([.ref (ad 12 0 0), .int x1, .long x2] : List Value).toArray = args at S hts ⊢
  clear hargs
  have KJ109 : ∀ (y4b109 : Int32)  (σb109 : zM) (H : Heap) (locs : List Loc) (ls : Array Slot), zG D aC A nl ad σb109 s H → va_S A s.heap H locs → lv_has ls 8 [(0, .ref (ad 12 0 0)), (1, .int x1), (2, .long x2), (4, .int y4b109)] → (f_X12_marks_B109 σb109 x1 x2 y4b109) = some (r, σ') → zWk p l e ({ frames := 2, cells := 0, slots := 0, locals := 43 } : Room) s m args below meth c A (some (.int r)) (fun t => zG D aC A nl ad σ' t t.heap ∧ True) H locs (F0 m 109 ls []) := by
    intro y4b109  σb109 H locs ls hG hS hl hf
    unfold f_X12_marks_B109 at hf
    refine lv_aload_n hx hb dX12_marks_109 rfl (lv_at hl 0 rfl) ?_
    refine z_get (c0 := 12) (i0 := 0) (k0 := 49) (T := TX12) (v := .int (zI σb109 12 0 49)) S hG (hZ.2.1 (12, 0) (by decide)) rfl inlX12 (by decide) rfl zw_1274 rfl dX12_marks_110 ?_
    refine lv_iconst (v := 1) hx hb dX12_marks_113 (by decide) ?_
    refine lv_isub hx hb dX12_marks_114 ?_
    refine lv_iload_n hx hb dX12_marks_115 rfl (lv_at hl 1 rfl) ?_
    refine z_callS (n := 2) (rest := []) (st1 := [.int (f_X12_seat ((zI σb109 12 0 49) - 1) x1)]) S hG hS hZ (fun _ _ h => h) (c_X12_seat l D aC zs A nl ad σb109 ((zI σb109 12 0 49) - 1) x1 (f_X12_seat ((zI σb109 12 0 49) - 1) x1) rfl) zw_1275 zw_1276 zw_5 zw_1277 (by decide +kernel) ⟨rfl, rfl⟩ ⟨(Nat.le_of_ble_eq_true rfl), (Nat.le_of_ble_eq_true rfl)⟩ hl.1 rfl (by rfl) (by rfl) (Nat.le_of_ble_eq_true rfl) dX12_marks_116 ⟨Nat.zero_le _, Nat.zero_le _⟩ (fun H locs hz6 hG hS => ?_)
    refine lv_istore (lv' := [(6, .int (f_X12_seat ((zI σb109 12 0 49) - 1) x1)), (0, .ref (ad 12 0 0)), (1, .int x1), (2, .long x2), (4, .int y4b109)]) hx hb dX12_marks_119 hl (by decide) rfl (fun ls hl => ?_)
    refine lv_aload_n hx hb dX12_marks_121 rfl (lv_at hl 1 rfl) ?_
    refine z_get (c0 := 12) (i0 := 0) (k0 := 57) (T := TX12) (v := .ref (ad 12 0 58)) S hG (hZ.2.1 (12, 0) (by decide)) rfl inlX12 (by decide) rfl zw_259 rfl dX12_marks_122 ?_
    refine lv_iload hx hb dX12_marks_125 (lv_at hl 0 rfl) ?_
    refine lv_iload hx hb dX12_marks_127 (lv_at hl 4 rfl) ?_
    obtain ⟨i7, hi7, hf⟩ := zbi hf
    refine z_iast (c0 := 12) (i0 := 0) (k0 := 57) S hG hS (hZ.2.1 (12, 0) (by decide)) (by decide) rfl hi7 dX12_marks_129 (fun H locs hG hS => ?_)
    obtain ⟨σ8, eσ8, hf⟩ := zlt_s hf
    rw [← eσ8] at hG
    refine lv_iconst (v := 0) hx hb dX12_marks_130 (by decide) ?_
    refine lv_istore (lv' := [(7, .int 0), (6, .int (f_X12_seat ((zI σb109 12 0 49) - 1) x1)), (0, .ref (ad 12 0 0)), (1, .int x1), (2, .long x2), (4, .int y4b109)]) hx hb dX12_marks_131 hl (by decide) rfl (fun ls hl => ?_)
    obtain ⟨t133, hw133, hfo133⟩ := zbi hf
    have KL133 : ∀ (n : Nat) (y7l133 : Int32) (σl133 : zM) (H : Heap) (locs : List Loc) (ls : Array Slot), zG D aC A nl ad σl133 s H → va_S A s.heap H locs → lv_has ls 8 [(0, .ref (ad 12 0 0)), (1, .int x1), (2, .long x2), (4, .int y4b109), (6, .int (f_X12_seat ((zI σb109 12 0 49) - 1) x1)), (7, .int y7l133)] → zwh (fun (q : (Int32 × zM)) => f_X12_marks_L133 x1 x2 y4b109 (f_X12_seat ((zI σb109 12 0 49) - 1) x1) q.1 q.2) n (y7l133, σl133) = some t133 → zWk p l e ({ frames := 2, cells := 0, slots := 0, locals := 43 } : Room) s m args below meth c A (some (.int r)) (fun t => zG D aC A nl ad σ' t t.heap ∧ True) H locs (F0 m 133 ls []) := by
      intro n
      induction n with
      | zero =>
        intro y7l133 σl133 H locs ls hG hS hl hw
        exact (zwh_0 hw).elim
      | succ n ih133 =>
        intro y7l133 σl133 H locs ls hG hS hl hw
        obtain ⟨rr133, hf, hk133⟩ := zwh_u hw
        have hf : f_X12_marks_L133 x1 x2 y4b109 (f_X12_seat ((zI σb109 12 0 49) - 1) x1) y7l133 σl133 = some rr133 := hf
        unfold f_X12_marks_L133 at hf
        refine lv_iload hx hb dX12_marks_133 (lv_at hl 5 rfl) ?_
        refine lv_iload hx hb dX12_marks_135 (lv_at hl 3 rfl) ?_
        refine lv_icmp_ge (tgt := 177) hx hb dX12_marks_137 (by decide) (fun c12 => ?_) (fun c12 => ?_)
        · have hf := zif_p c12 hf
          cases hf
          have hk133 : (σl133 : zM) = t133 := hk133
          have hf := hfo133
          rw [← hk133] at hf
          have hf : (some (y4b109, σl133)) = some (r, σ') := hf
          refine lv_iload hx hb dX12_marks_177 (lv_at hl 3 rfl) ?_
          obtain ⟨hq1, hq2⟩ := Prod.mk.inj (Option.some.inj hf)
          subst hq1
          subst hq2
          exact z_iret S hG hS hlocks trivial hr dX12_marks_179
        · have hf := zif_n c12 hf
          refine lv_aload_n hx hb dX12_marks_140 rfl (lv_at hl 0 rfl) ?_
          refine z_get (c0 := 12) (i0 := 0) (k0 := 56) (T := TX12) (v := .ref (ad 12 0 57)) S hG (hZ.2.1 (12, 0) (by decide)) rfl inlX12 (by decide) rfl zw_258 rfl dX12_marks_141 ?_
          refine lv_bipush (v := 10) hx hb dX12_marks_144 (by decide) ?_
          refine lv_iload hx hb dX12_marks_146 (lv_at hl 4 rfl) ?_
          refine lv_imul hx hb dX12_marks_148 ?_
          refine lv_iload hx hb dX12_marks_149 (lv_at hl 5 rfl) ?_
          refine lv_iadd hx hb dX12_marks_151 ?_
          refine lv_lload_n hx hb dX12_marks_152 rfl (lv_at hl 2 rfl) ?_
          refine lv_iconst (v := 4) hx hb dX12_marks_153 (by decide) ?_
          refine lv_iload hx hb dX12_marks_154 (lv_at hl 3 rfl) ?_
          refine lv_iconst (v := 1) hx hb dX12_marks_156 (by decide) ?_
          refine lv_isub hx hb dX12_marks_157 ?_
          refine lv_iload hx hb dX12_marks_158 (lv_at hl 5 rfl) ?_
          refine lv_isub hx hb dX12_marks_160 ?_
          refine lv_imul hx hb dX12_marks_161 ?_
          refine lv_lshr (v := (zlshr x2 (4 * ((y4b109 - 1) - y7l133)))) hx hb dX12_marks_162 rfl ?_
          refine lv_ldc2 (v := 15) hx hb hown (hts _ zw_1273) dX12_marks_163 ?_
          refine lv_land hx hb dX12_marks_166 ?_
          refine lv_l2i (v := ((zlshr x2 (4 * ((y4b109 - 1) - y7l133))) &&& 15).toInt32) hx hb dX12_marks_167 rfl ?_
          refine lv_iconst (v := 1) hx hb dX12_marks_168 (by decide) ?_
          refine lv_isub hx hb dX12_marks_169 ?_
          obtain ⟨i13, hi13, hf⟩ := zbi hf
          refine z_iast (c0 := 12) (i0 := 0) (k0 := 56) S hG hS (hZ.2.1 (12, 0) (by decide)) (by decide) rfl hi13 dX12_marks_170 (fun H locs hG hS => ?_)
          obtain ⟨σ14, eσ14, hf⟩ := zlt_s hf
          rw [← eσ14] at hG
          refine lv_iinc (v := (y7l133 + 1)) (lv' := [(7, .int (y7l133 + 1)), (0, .ref (ad 12 0 0)), (1, .int x1), (2, .long x2), (4, .int y4b109), (6, .int (f_X12_seat ((zI σb109 12 0 49) - 1) x1))]) hx hb dX12_marks_171 hl (k := 5) rfl rfl (by decide) rfl (fun ls hl => ?_)
          refine lv_goto (tgt := 133) hx hb dX12_marks_174 (by decide) ?_
          cases hf
          exact ih133 (y7l133 + 1) σ14 H locs ls hG hS (lv_sub hl [1, 2, 3, 4, 5, 0] rfl) hk133
    exact KL133 zFu 0 σ8 H locs ls hG hS (lv_sub hl [2, 3, 4, 5, 1, 0] rfl) hw133
  have hK0 : ∀ (H : Heap) (locs : List Loc) (ls : Array Slot), zG D aC A nl ad σ s H → va_S A s.heap H locs → lv_has ls 8 [(0, .ref (ad 12 0 0)), (1, .int x1), (2, .long x2)] → f_X12_marks σ x1 x2 = some (r, σ') → zWk p l e ({ frames := 2, cells := 0, slots := 0, locals := 43 } : Room) s m args below meth c A (some (.int r)) (fun t => zG D aC A nl ad σ' t t.heap ∧ True) H locs (F0 m 0 ls []) := by
    intro H locs ls hG hS hl hf
    unfold f_X12_marks at hf
    refine lv_aload_n hx hb dX12_marks_0 rfl (lv_at hl 0 rfl) ?_
    refine lv_iload_n hx hb dX12_marks_1 rfl (lv_at hl 1 rfl) ?_
    refine z_callV (n := 1) (rest := []) (st1 := [.int (f_X12_isJuror σ x1)]) (c0 := 12) (i0 := 0) (hZ.2.1 (12, 0) (by decide)) (by rfl) S hG hS hZ (fun _ _ h => h) (c_X12_isJuror l D aC zs A nl ad σ x1 (f_X12_isJuror σ x1) rfl) zw_1220 zw_1221 zw_1222 zw_5 zw_1223 (by decide +kernel) ⟨rfl, rfl⟩ ⟨(Nat.le_of_ble_eq_true rfl), (Nat.le_of_ble_eq_true rfl)⟩ hl.1 rfl (by rfl) (by rfl) (Nat.le_of_ble_eq_true rfl) dX12_marks_2 ⟨Nat.zero_le _, Nat.zero_le _⟩ (fun H locs hz1 hG hS => ?_)
    refine lv_if_eq (tgt := 21) hx hb dX12_marks_5 (by decide) (fun c2 => ?_) (fun c2 => ?_)
    · have hf := zif_p c2 hf
      refine lv_iconst (v := (-1)) hx hb dX12_marks_21 (by decide) ?_
      obtain ⟨hq1, hq2⟩ := Prod.mk.inj (Option.some.inj hf)
      subst hq1
      subst hq2
      exact z_iret S hG hS hlocks trivial hr dX12_marks_22
    · have hf := zif_n c2 hf
      refine lv_aload_n hx hb dX12_marks_8 rfl (lv_at hl 0 rfl) ?_
      refine z_get (c0 := 12) (i0 := 0) (k0 := 54) (T := TX12) (v := .int (zI σ 12 0 54)) S hG (hZ.2.1 (12, 0) (by decide)) rfl inlX12 (by decide) rfl zw_1272 rfl dX12_marks_9 ?_
      refine lv_if_eq (tgt := 21) hx hb dX12_marks_12 (by decide) (fun c3 => ?_) (fun c3 => ?_)
      · have hf := zif_p c3 hf
        refine lv_iconst (v := (-1)) hx hb dX12_marks_21 (by decide) ?_
        obtain ⟨hq1, hq2⟩ := Prod.mk.inj (Option.some.inj hf)
        subst hq1
        subst hq2
        exact z_iret S hG hS hlocks trivial hr dX12_marks_22
      · have hf := zif_n c3 hf
        refine lv_lload_n hx hb dX12_marks_15 rfl (lv_at hl 2 rfl) ?_
        refine lv_lconst (v := 0) hx hb dX12_marks_16 (by decide) ?_
        refine W.lcmp hx hb dX12_marks_17 ?_
        refine lv_if_ge (tgt := 23) hx hb dX12_marks_18 (by decide) (fun c4 => ?_) (fun c4 => ?_)
        · have hf := zif_p ((lg_cmp_ge x2 0).mp c4) hf
          refine lv_iconst (v := 0) hx hb dX12_marks_23 (by decide) ?_
          refine lv_istore (lv' := [(4, .int 0), (0, .ref (ad 12 0 0)), (1, .int x1), (2, .long x2)]) hx hb dX12_marks_24 hl (by decide) rfl (fun ls hl => ?_)
          refine lv_iconst (v := 0) hx hb dX12_marks_26 (by decide) ?_
          refine lv_istore (lv' := [(5, .int 0), (4, .int 0), (0, .ref (ad 12 0 0)), (1, .int x1), (2, .long x2)]) hx hb dX12_marks_27 hl (by decide) rfl (fun ls hl => ?_)
          refine lv_bipush (v := 60) hx hb dX12_marks_29 (by decide) ?_
          refine lv_istore (lv' := [(6, .int 60), (5, .int 0), (4, .int 0), (0, .ref (ad 12 0 0)), (1, .int x1), (2, .long x2)]) hx hb dX12_marks_31 hl (by decide) rfl (fun ls hl => ?_)
          obtain ⟨t33, hw33, hfo33⟩ := zbi hf
          have KL33 : ∀ (n : Nat) (y4l33 : Int32) (y5l33 : Int32) (y6l33 : Int32) (H : Heap) (locs : List Loc) (ls : Array Slot), zG D aC A nl ad σ s H → va_S A s.heap H locs → lv_has ls 8 [(0, .ref (ad 12 0 0)), (1, .int x1), (2, .long x2), (4, .int y4l33), (5, .int y5l33), (6, .int y6l33)] → zwh (fun (q : (Int32 × Int32 × Int32)) => f_X12_marks_L33 σ x1 x2 q.1 q.2.1 q.2.2) n (y4l33, y5l33, y6l33) = some t33 → zWk p l e ({ frames := 2, cells := 0, slots := 0, locals := 43 } : Room) s m args below meth c A (some (.int r)) (fun t => zG D aC A nl ad σ' t t.heap ∧ True) H locs (F0 m 33 ls []) := by
            intro n
            induction n with
            | zero =>
              intro y4l33 y5l33 y6l33 H locs ls hG hS hl hw
              exact (zwh_0 hw).elim
            | succ n ih33 =>
              intro y4l33 y5l33 y6l33 H locs ls hG hS hl hw
              obtain ⟨rr33, hf, hk33⟩ := zwh_u hw
              have hf : f_X12_marks_L33 σ x1 x2 y4l33 y5l33 y6l33 = some rr33 := hf
              unfold f_X12_marks_L33 at hf
              have KJ103_33 : ∀ (y4b103 : Int32) (y5b103 : Int32) (y6b103 : Int32)   (H : Heap) (locs : List Loc) (ls : Array Slot), zG D aC A nl ad σ s H → va_S A s.heap H locs → lv_has ls 8 [(0, .ref (ad 12 0 0)), (1, .int x1), (2, .long x2), (4, .int y4b103), (5, .int y5b103), (6, .int y6b103)] → (f_X12_marks_B103_33 σ x1 x2 y4b103 y5b103 y6b103) = some rr33 → zWk p l e ({ frames := 2, cells := 0, slots := 0, locals := 43 } : Room) s m args below meth c A (some (.int r)) (fun t => zG D aC A nl ad σ' t t.heap ∧ True) H locs (F0 m 103 ls []) := by
                intro y4b103 y5b103 y6b103   H locs ls hG hS hl hf
                unfold f_X12_marks_B103_33 at hf
                refine lv_iinc (v := (y6b103 + (-4))) (lv' := [(6, .int (y6b103 + (-4))), (0, .ref (ad 12 0 0)), (1, .int x1), (2, .long x2), (4, .int y4b103), (5, .int y5b103)]) hx hb dX12_marks_103 hl (k := 5) rfl rfl (by decide) rfl (fun ls hl => ?_)
                refine lv_goto (tgt := 33) hx hb dX12_marks_106 (by decide) ?_
                cases hf
                exact ih33 y4b103 y5b103 (y6b103 + (-4)) H locs ls hG hS (lv_sub hl [1, 2, 3, 4, 5, 0] rfl) hk33
              have KJ62_33 : ∀ (y4b62 : Int32) (y5b62 : Int32) (y6b62 : Int32) (y7b62 : Int32)   (H : Heap) (locs : List Loc) (ls : Array Slot), zG D aC A nl ad σ s H → va_S A s.heap H locs → lv_has ls 8 [(0, .ref (ad 12 0 0)), (1, .int x1), (2, .long x2), (4, .int y4b62), (5, .int y5b62), (6, .int y6b62), (7, .int y7b62)] → (f_X12_marks_B62_33 σ x1 x2 y4b62 y5b62 y6b62 y7b62) = some rr33 → zWk p l e ({ frames := 2, cells := 0, slots := 0, locals := 43 } : Room) s m args below meth c A (some (.int r)) (fun t => zG D aC A nl ad σ' t t.heap ∧ True) H locs (F0 m 62 ls []) := by
                intro y4b62 y5b62 y6b62 y7b62   H locs ls hG hS hl hf
                unfold f_X12_marks_B62_33 at hf
                refine lv_iload hx hb dX12_marks_62 (lv_at hl 6 rfl) ?_
                refine lv_if_eq (tgt := 89) hx hb dX12_marks_64 (by decide) (fun c23 => ?_) (fun c23 => ?_)
                · have hf := zif_p c23 hf
                  cases hf
                  have hk33 : ((.inl ()) : (Unit ⊕ Int32)) = t33 := hk33
                  have hf := hfo33
                  rw [← hk33] at hf
                  have hf : (some ((-1), σ)) = some (r, σ') := hf
                  refine lv_iconst (v := (-1)) hx hb dX12_marks_89 (by decide) ?_
                  obtain ⟨hq1, hq2⟩ := Prod.mk.inj (Option.some.inj hf)
                  subst hq1
                  subst hq2
                  exact z_iret S hG hS hlocks trivial hr dX12_marks_90
                · have hf := zif_n c23 hf
                  refine lv_aload_n hx hb dX12_marks_67 rfl (lv_at hl 0 rfl) ?_
                  refine lv_iload hx hb dX12_marks_68 (lv_at hl 6 rfl) ?_
                  refine lv_iconst (v := 1) hx hb dX12_marks_70 (by decide) ?_
                  refine lv_isub hx hb dX12_marks_71 ?_
                  refine z_callV (n := 1) (rest := []) (st1 := [.int (f_X12_isScheme σ (y7b62 - 1))]) (c0 := 12) (i0 := 0) (hZ.2.1 (12, 0) (by decide)) (by rfl) S hG hS hZ (fun _ _ h => h) (c_X12_isScheme l D aC zs A nl ad σ (y7b62 - 1) (f_X12_isScheme σ (y7b62 - 1)) rfl) zw_837 zw_838 zw_839 zw_5 zw_840 (by decide +kernel) ⟨rfl, rfl⟩ ⟨(Nat.le_of_ble_eq_true rfl), (Nat.le_of_ble_eq_true rfl)⟩ hl.1 rfl (by rfl) (by rfl) (Nat.le_of_ble_eq_true rfl) dX12_marks_72 ⟨Nat.zero_le _, Nat.zero_le _⟩ (fun H locs hz24 hG hS => ?_)
                  refine lv_if_eq (tgt := 89) hx hb dX12_marks_75 (by decide) (fun c25 => ?_) (fun c25 => ?_)
                  · have hf := zif_p c25 hf
                    cases hf
                    have hk33 : ((.inl ()) : (Unit ⊕ Int32)) = t33 := hk33
                    have hf := hfo33
                    rw [← hk33] at hf
                    have hf : (some ((-1), σ)) = some (r, σ') := hf
                    refine lv_iconst (v := (-1)) hx hb dX12_marks_89 (by decide) ?_
                    obtain ⟨hq1, hq2⟩ := Prod.mk.inj (Option.some.inj hf)
                    subst hq1
                    subst hq2
                    exact z_iret S hG hS hlocks trivial hr dX12_marks_90
                  · have hf := zif_n c25 hf
                    refine lv_iload hx hb dX12_marks_78 (lv_at hl 4 rfl) ?_
                    refine lv_iload hx hb dX12_marks_80 (lv_at hl 6 rfl) ?_
                    refine lv_ishr hx hb dX12_marks_82 ?_
                    refine lv_iconst (v := 1) hx hb dX12_marks_83 (by decide) ?_
                    refine lv_iand hx hb dX12_marks_84 ?_
                    refine lv_iconst (v := 1) hx hb dX12_marks_85 (by decide) ?_
                    refine lv_icmp_ne (tgt := 91) hx hb dX12_marks_86 (by decide) (fun c26 => ?_) (fun c26 => ?_)
                    · have hf := zif_n c26 hf
                      refine lv_iload hx hb dX12_marks_91 (lv_at hl 4 rfl) ?_
                      refine lv_iconst (v := 1) hx hb dX12_marks_93 (by decide) ?_
                      refine lv_iload hx hb dX12_marks_94 (lv_at hl 6 rfl) ?_
                      refine lv_ishl hx hb dX12_marks_96 ?_
                      refine lv_ior hx hb dX12_marks_97 ?_
                      refine lv_istore (lv' := [(5, .int (y5b62 ||| (1 <<< (y7b62 &&& 31)))), (0, .ref (ad 12 0 0)), (1, .int x1), (2, .long x2), (4, .int y4b62), (6, .int y6b62), (7, .int y7b62)]) hx hb dX12_marks_98 hl (by decide) rfl (fun ls hl => ?_)
                      refine lv_iinc (v := (y4b62 + 1)) (lv' := [(4, .int (y4b62 + 1)), (5, .int (y5b62 ||| (1 <<< (y7b62 &&& 31)))), (0, .ref (ad 12 0 0)), (1, .int x1), (2, .long x2), (6, .int y6b62), (7, .int y7b62)]) hx hb dX12_marks_100 hl (k := 4) rfl rfl (by decide) rfl (fun ls hl => ?_)
                      exact KJ103_33 (y4b62 + 1) (y5b62 ||| (1 <<< (y7b62 &&& 31))) y6b62 H locs ls hG hS (lv_sub hl [2, 3, 4, 0, 1, 5] rfl) hf
                    · have hf := zif_p c26 hf
                      cases hf
                      have hk33 : ((.inl ()) : (Unit ⊕ Int32)) = t33 := hk33
                      have hf := hfo33
                      rw [← hk33] at hf
                      have hf : (some ((-1), σ)) = some (r, σ') := hf
                      refine lv_iconst (v := (-1)) hx hb dX12_marks_89 (by decide) ?_
                      obtain ⟨hq1, hq2⟩ := Prod.mk.inj (Option.some.inj hf)
                      subst hq1
                      subst hq2
                      exact z_iret S hG hS hlocks trivial hr dX12_marks_90
              refine lv_iload hx hb dX12_marks_33 (lv_at hl 5 rfl) ?_
              refine lv_if_lt (tgt := 109) hx hb dX12_marks_35 (by decide) (fun c21 => ?_) (fun c21 => ?_)
              · have hf := zif_p c21 hf
                cases hf
                have hk33 : ((.inr y4l33) : (Unit ⊕ Int32)) = t33 := hk33
                have hf := hfo33
                rw [← hk33] at hf
                have hf : (f_X12_marks_B109 σ x1 x2 y4l33) = some (r, σ') := hf
                exact KJ109 y4l33 σ H locs ls hG hS (lv_sub hl [0, 1, 2, 3] rfl) hf
              · have hf := zif_n c21 hf
                refine lv_lload_n hx hb dX12_marks_38 rfl (lv_at hl 2 rfl) ?_
                refine lv_iload hx hb dX12_marks_39 (lv_at hl 5 rfl) ?_
                refine lv_lshr (v := (zlshr x2 y6l33)) hx hb dX12_marks_41 rfl ?_
                refine lv_ldc2 (v := 15) hx hb hown (hts _ zw_1273) dX12_marks_42 ?_
                refine lv_land hx hb dX12_marks_45 ?_
                refine lv_l2i (v := ((zlshr x2 y6l33) &&& 15).toInt32) hx hb dX12_marks_46 rfl ?_
                refine lv_istore (lv' := [(7, .int (((zlshr x2 y6l33) &&& 15).toInt32)), (0, .ref (ad 12 0 0)), (1, .int x1), (2, .long x2), (4, .int y4l33), (5, .int y5l33), (6, .int y6l33)]) hx hb dX12_marks_47 hl (by decide) rfl (fun ls hl => ?_)
                refine lv_iload hx hb dX12_marks_49 (lv_at hl 0 rfl) ?_
                refine lv_if_ne (tgt := 62) hx hb dX12_marks_51 (by decide) (fun c22 => ?_) (fun c22 => ?_)
                · have hf := zif_n c22 hf
                  exact KJ62_33 y4l33 y5l33 y6l33 (((zlshr x2 y6l33) &&& 15).toInt32) H locs ls hG hS (lv_sub hl [1, 2, 3, 4, 5, 6, 0] rfl) hf
                · have hf := zif_p c22 hf
                  refine lv_iload hx hb dX12_marks_54 (lv_at hl 4 rfl) ?_
                  refine lv_if_ne (tgt := 62) hx hb dX12_marks_56 (by decide) (fun c27 => ?_) (fun c27 => ?_)
                  · have hf := zif_n c27 hf
                    exact KJ62_33 y4l33 y5l33 y6l33 (((zlshr x2 y6l33) &&& 15).toInt32) H locs ls hG hS (lv_sub hl [1, 2, 3, 4, 5, 6, 0] rfl) hf
                  · have hf := zif_p c27 hf
                    refine lv_goto (tgt := 103) hx hb dX12_marks_59 (by decide) ?_
                    exact KJ103_33 y4l33 y5l33 y6l33 H locs ls hG hS (lv_sub hl [1, 2, 3, 4, 5, 6] rfl) hf
          exact KL33 zFu 0 0 60 H locs ls hG hS (lv_sub hl [3, 4, 5, 2, 1, 0] rfl) hw33
        · have hf := zif_n (fun h => c4 ((lg_cmp_ge x2 0).mpr h)) hf
          refine lv_iconst (v := (-1)) hx hb dX12_marks_21 (by decide) ?_
          obtain ⟨hq1, hq2⟩ := Prod.mk.inj (Option.some.inj hf)
          subst hq1
          subst hq2
          exact z_iret S hG hS hlocks trivial hr dX12_marks_22
  exact hK0 _ _ ls hG hS hl hf
set_option maxRecDepth 100000 in
set_option maxHeartbeats 4000000 in
theorem c_X12_isInRound (l : Launch) (D : va_G) (aC : Nat → ClassId) (zs : Nat × Nat) (A : Nat → Prop) (nl : zNL) (ad : Nat → Nat → Nat → Nat) (σ : zM) (x1 : Int32) (x2 : Int32) (r : Int32)  (hf : f_X12_isInRound σ x1 x2 = some r) : Met l yX12_isInRound (Cond.code yX12_isInRound cX12_isInRound 3 (some .boolean) :: wsL_law) ({ frames := 0, cells := 0, slots := 0, locals := 0 } : Room) (zP D aC zs zfM A nl ad σ [.ref (ad 12 0 0), .int x1, .int x2]) (zQ (some (.int r)) (fun t => zG D aC A nl ad σ t t.heap ∧ (r = 0 ∨ r = 1)) A) 0 0 A := by
  refine Met.ofW (cc := cX12_isInRound) (maxL := 3) (ret := (some .boolean)) (by decide) rfl ?_
  intro p e s m args below meth c s₁ B hml hv
  obtain ⟨rfl, hG, hZ⟩ := hv
  have hx := B.exec
  have hb := B.bytes
  have hr := B.returns
  have hts : ∀ w ∈ wsL_law, w.before ([.ref (ad 12 0 0), .int x1, .int x2] : List Value).toArray s = true := fun w h => (atoms_spec B.pre) w (List.mem_cons_of_mem _ h)
  have hown : s.vm.findClass RX12 = some m.cls := findClass_of_methodNamed B.named
  have hlocks := B.notSynchronized
  have S : zS p m c cX12_isInRound 3 s ([.ref (ad 12 0 0), .int x1, .int x2] : List Value).toArray RX12 := ⟨hx, hb, hml, hown, hts⟩
  have hS : va_S A s.heap s.heap [] := va_S.rf
  have hl := lv_entry ([.ref (ad 12 0 0), .int x1, .int x2]) (n := 3) (Nat.le_of_ble_eq_true rfl)
  rw [lg_entry_eq]
  generalize (lg_sl ([.ref (ad 12 0 0), .int x1, .int x2]) ++ List.replicate (3 - (lg_sl ([.ref (ad 12 0 0), .int x1, .int x2])).length) Slot.unset).toArray = ls at hl ⊢
  have hl : lv_has ls 3 [(0, .ref (ad 12 0 0)), (1, .int x1), (2, .int x2)] := hl
  generalize hargs : ([.ref (ad 12 0 0), .int x1, .int x2] : List Value).toArray = args at S hts ⊢
  clear hargs
  have hK0 : ∀ (H : Heap) (locs : List Loc) (ls : Array Slot), zG D aC A nl ad σ s H → va_S A s.heap H locs → lv_has ls 3 [(0, .ref (ad 12 0 0)), (1, .int x1), (2, .int x2)] → f_X12_isInRound σ x1 x2 = some r → zWk p l e ({ frames := 0, cells := 0, slots := 0, locals := 0 } : Room) s m args below meth c A (some (.int r)) (fun t => zG D aC A nl ad σ t t.heap ∧ (r = 0 ∨ r = 1)) H locs (F0 m 0 ls []) := by
    intro H locs ls hG hS hl hf
    unfold f_X12_isInRound at hf
    refine lv_aload_n hx hb dX12_isInRound_0 rfl (lv_at hl 0 rfl) ?_
    refine z_get (c0 := 12) (i0 := 0) (k0 := 58) (T := TX12) (v := .ref (ad 12 0 59)) S hG (hZ.2.1 (12, 0) (by decide)) rfl inlX12 (by decide) rfl zw_260 rfl dX12_isInRound_1 ?_
    refine lv_iload_n hx hb dX12_isInRound_4 rfl (lv_at hl 1 rfl) ?_
    obtain ⟨i1, hi1, hf⟩ := zbi hf
    refine z_iald (c0 := 12) (i0 := 0) (k0 := 58) S hG (hZ.2.1 (12, 0) (by decide)) (by decide) rfl hi1 dX12_isInRound_5 ?_
    refine lv_iload_n hx hb dX12_isInRound_6 rfl (lv_at hl 2 rfl) ?_
    refine lv_ishr hx hb dX12_isInRound_7 ?_
    refine lv_iconst (v := 1) hx hb dX12_isInRound_8 (by decide) ?_
    refine lv_iand hx hb dX12_isInRound_9 ?_
    refine lv_iconst (v := 1) hx hb dX12_isInRound_10 (by decide) ?_
    refine lv_icmp_ne (tgt := 18) hx hb dX12_isInRound_11 (by decide) (fun c2 => ?_) (fun c2 => ?_)
    · have hf := zif_n c2 hf
      refine lv_iconst (v := 0) hx hb dX12_isInRound_18 (by decide) ?_
      have hq := (Option.some.inj hf)
      subst hq
      exact z_zret S hG hS hlocks (Or.inl rfl) hr dX12_isInRound_19
    · have hf := zif_p c2 hf
      refine lv_iconst (v := 1) hx hb dX12_isInRound_14 (by decide) ?_
      refine lv_goto (tgt := 19) hx hb dX12_isInRound_15 (by decide) ?_
      have hq := (Option.some.inj hf)
      subst hq
      exact z_zret S hG hS hlocks (Or.inr rfl) hr dX12_isInRound_19
  exact hK0 _ _ ls hG hS hl hf
set_option maxRecDepth 100000 in
set_option maxHeartbeats 4000000 in
theorem c_X12_countsNow (l : Launch) (D : va_G) (aC : Nat → ClassId) (zs : Nat × Nat) (A : Nat → Prop) (nl : zNL) (ad : Nat → Nat → Nat → Nat) (σ : zM) (x1 : Int32) (x2 : Int32) (r : Int32)  (hf : f_X12_countsNow σ x1 x2 = some r) : Met l yX12_countsNow (Cond.code yX12_countsNow cX12_countsNow 7 (some .boolean) :: wsL_law) ({ frames := 1, cells := 0, slots := 0, locals := 22 } : Room) (zP D aC zs zfM A nl ad σ [.ref (ad 12 0 0), .int x1, .int x2]) (zQ (some (.int r)) (fun t => zG D aC A nl ad σ t t.heap ∧ (r = 0 ∨ r = 1)) A) 0 0 A := by
  refine Met.ofW (cc := cX12_countsNow) (maxL := 7) (ret := (some .boolean)) (by decide) rfl ?_
  intro p e s m args below meth c s₁ B hml hv
  obtain ⟨rfl, hG, hZ⟩ := hv
  have hx := B.exec
  have hb := B.bytes
  have hr := B.returns
  have hts : ∀ w ∈ wsL_law, w.before ([.ref (ad 12 0 0), .int x1, .int x2] : List Value).toArray s = true := fun w h => (atoms_spec B.pre) w (List.mem_cons_of_mem _ h)
  have hown : s.vm.findClass RX12 = some m.cls := findClass_of_methodNamed B.named
  have hlocks := B.notSynchronized
  have S : zS p m c cX12_countsNow 7 s ([.ref (ad 12 0 0), .int x1, .int x2] : List Value).toArray RX12 := ⟨hx, hb, hml, hown, hts⟩
  have hS : va_S A s.heap s.heap [] := va_S.rf
  have hl := lv_entry ([.ref (ad 12 0 0), .int x1, .int x2]) (n := 7) (Nat.le_of_ble_eq_true rfl)
  rw [lg_entry_eq]
  generalize (lg_sl ([.ref (ad 12 0 0), .int x1, .int x2]) ++ List.replicate (7 - (lg_sl ([.ref (ad 12 0 0), .int x1, .int x2])).length) Slot.unset).toArray = ls at hl ⊢
  have hl : lv_has ls 7 [(0, .ref (ad 12 0 0)), (1, .int x1), (2, .int x2)] := hl
  generalize hargs : ([.ref (ad 12 0 0), .int x1, .int x2] : List Value).toArray = args at S hts ⊢
  clear hargs
  have hK0 : ∀ (H : Heap) (locs : List Loc) (ls : Array Slot), zG D aC A nl ad σ s H → va_S A s.heap H locs → lv_has ls 7 [(0, .ref (ad 12 0 0)), (1, .int x1), (2, .int x2)] → f_X12_countsNow σ x1 x2 = some r → zWk p l e ({ frames := 1, cells := 0, slots := 0, locals := 22 } : Room) s m args below meth c A (some (.int r)) (fun t => zG D aC A nl ad σ t t.heap ∧ (r = 0 ∨ r = 1)) H locs (F0 m 0 ls []) := by
    intro H locs ls hG hS hl hf
    unfold f_X12_countsNow at hf
    refine lv_iconst (v := 1) hx hb dX12_countsNow_0 (by decide) ?_
    refine lv_istore_n (lv' := [(3, .int 1), (0, .ref (ad 12 0 0)), (1, .int x1), (2, .int x2)]) hx hb dX12_countsNow_1 rfl hl (by decide) rfl (fun ls hl => ?_)
    refine lv_iload_n hx hb dX12_countsNow_2 rfl (lv_at hl 2 rfl) ?_
    refine lv_iload_n hx hb dX12_countsNow_3 rfl (lv_at hl 3 rfl) ?_
    refine z_callS (n := 2) (rest := []) (st1 := [.int (f_X12_seat x1 x2)]) S hG hS hZ (fun _ _ h => h) (c_X12_seat l D aC zs A nl ad σ x1 x2 (f_X12_seat x1 x2) rfl) zw_1275 zw_1276 zw_5 zw_1277 (by decide +kernel) ⟨rfl, rfl⟩ ⟨(Nat.le_of_ble_eq_true rfl), (Nat.le_of_ble_eq_true rfl)⟩ hl.1 rfl (by rfl) (by rfl) (Nat.le_of_ble_eq_true rfl) dX12_countsNow_4 ⟨Nat.zero_le _, Nat.zero_le _⟩ (fun H locs hz1 hG hS => ?_)
    refine lv_istore (lv' := [(4, .int (f_X12_seat x1 x2)), (3, .int 1), (0, .ref (ad 12 0 0)), (1, .int x1), (2, .int x2)]) hx hb dX12_countsNow_7 hl (by decide) rfl (fun ls hl => ?_)
    refine lv_iconst (v := 0) hx hb dX12_countsNow_9 (by decide) ?_
    refine lv_istore (lv' := [(5, .int 0), (4, .int (f_X12_seat x1 x2)), (3, .int 1), (0, .ref (ad 12 0 0)), (1, .int x1), (2, .int x2)]) hx hb dX12_countsNow_10 hl (by decide) rfl (fun ls hl => ?_)
    obtain ⟨t12, hw12, hfo12⟩ := zbi hf
    have KL12 : ∀ (n : Nat) (y3l12 : Int32) (y5l12 : Int32) (H : Heap) (locs : List Loc) (ls : Array Slot), zG D aC A nl ad σ s H → va_S A s.heap H locs → lv_has ls 7 [(0, .ref (ad 12 0 0)), (1, .int x1), (2, .int x2), (4, .int (f_X12_seat x1 x2)), (3, .int y3l12), (5, .int y5l12)] → zwh (fun (q : (Int32 × Int32)) => f_X12_countsNow_L12 σ x1 x2 (f_X12_seat x1 x2) q.1 q.2) n (y3l12, y5l12) = some t12 → zWk p l e ({ frames := 1, cells := 0, slots := 0, locals := 22 } : Room) s m args below meth c A (some (.int r)) (fun t => zG D aC A nl ad σ t t.heap ∧ (r = 0 ∨ r = 1)) H locs (F0 m 12 ls []) := by
      intro n
      induction n with
      | zero =>
        intro y3l12 y5l12 H locs ls hG hS hl hw
        exact (zwh_0 hw).elim
      | succ n ih12 =>
        intro y3l12 y5l12 H locs ls hG hS hl hw
        obtain ⟨rr12, hf, hk12⟩ := zwh_u hw
        have hf : f_X12_countsNow_L12 σ x1 x2 (f_X12_seat x1 x2) y3l12 y5l12 = some rr12 := hf
        unfold f_X12_countsNow_L12 at hf
        have KJ82_12 : ∀ (y5b82 : Int32) (t0b82 : Int32)   (H : Heap) (locs : List Loc) (ls : Array Slot), zG D aC A nl ad σ s H → va_S A s.heap H locs → lv_has ls 7 [(0, .ref (ad 12 0 0)), (1, .int x1), (2, .int x2), (4, .int (f_X12_seat x1 x2)), (5, .int y5b82)] → (f_X12_countsNow_B82_12 σ x1 x2 (f_X12_seat x1 x2) y5b82 t0b82) = some rr12 → zWk p l e ({ frames := 1, cells := 0, slots := 0, locals := 22 } : Room) s m args below meth c A (some (.int r)) (fun t => zG D aC A nl ad σ t t.heap ∧ (r = 0 ∨ r = 1)) H locs (F0 m 82 ls [.int t0b82]) := by
          intro y5b82 t0b82   H locs ls hG hS hl hf
          unfold f_X12_countsNow_B82_12 at hf
          refine lv_istore_n (lv' := [(3, .int t0b82), (0, .ref (ad 12 0 0)), (1, .int x1), (2, .int x2), (4, .int (f_X12_seat x1 x2)), (5, .int y5b82)]) hx hb dX12_countsNow_82 rfl hl (by decide) rfl (fun ls hl => ?_)
          refine lv_iinc (v := (y5b82 + 1)) (lv' := [(5, .int (y5b82 + 1)), (3, .int t0b82), (0, .ref (ad 12 0 0)), (1, .int x1), (2, .int x2), (4, .int (f_X12_seat x1 x2))]) hx hb dX12_countsNow_83 hl (k := 5) rfl rfl (by decide) rfl (fun ls hl => ?_)
          refine lv_goto (tgt := 12) hx hb dX12_countsNow_86 (by decide) ?_
          cases hf
          exact ih12 t0b82 (y5b82 + 1) H locs ls hG hS (lv_sub hl [2, 3, 4, 5, 1, 0] rfl) hk12
        have KJ81_12 : ∀ (y5b81 : Int32)   (H : Heap) (locs : List Loc) (ls : Array Slot), zG D aC A nl ad σ s H → va_S A s.heap H locs → lv_has ls 7 [(0, .ref (ad 12 0 0)), (1, .int x1), (2, .int x2), (4, .int (f_X12_seat x1 x2)), (5, .int y5b81)] → (f_X12_countsNow_B81_12 σ x1 x2 (f_X12_seat x1 x2) y5b81) = some rr12 → zWk p l e ({ frames := 1, cells := 0, slots := 0, locals := 22 } : Room) s m args below meth c A (some (.int r)) (fun t => zG D aC A nl ad σ t t.heap ∧ (r = 0 ∨ r = 1)) H locs (F0 m 81 ls []) := by
          intro y5b81   H locs ls hG hS hl hf
          unfold f_X12_countsNow_B81_12 at hf
          refine lv_iconst (v := 0) hx hb dX12_countsNow_81 (by decide) ?_
          exact KJ82_12 y5b81 0 H locs ls hG hS (lv_sub hl [0, 1, 2, 3, 4] rfl) hf
        have KJ77_12 : ∀ (y5b77 : Int32)   (H : Heap) (locs : List Loc) (ls : Array Slot), zG D aC A nl ad σ s H → va_S A s.heap H locs → lv_has ls 7 [(0, .ref (ad 12 0 0)), (1, .int x1), (2, .int x2), (4, .int (f_X12_seat x1 x2)), (5, .int y5b77)] → (f_X12_countsNow_B77_12 σ x1 x2 (f_X12_seat x1 x2) y5b77) = some rr12 → zWk p l e ({ frames := 1, cells := 0, slots := 0, locals := 22 } : Room) s m args below meth c A (some (.int r)) (fun t => zG D aC A nl ad σ t t.heap ∧ (r = 0 ∨ r = 1)) H locs (F0 m 77 ls []) := by
          intro y5b77   H locs ls hG hS hl hf
          unfold f_X12_countsNow_B77_12 at hf
          refine lv_iconst (v := 1) hx hb dX12_countsNow_77 (by decide) ?_
          refine lv_goto (tgt := 82) hx hb dX12_countsNow_78 (by decide) ?_
          exact KJ82_12 y5b77 1 H locs ls hG hS (lv_sub hl [0, 1, 2, 3, 4] rfl) hf
        refine lv_iload hx hb dX12_countsNow_12 (lv_at hl 5 rfl) ?_
        refine lv_aload_n hx hb dX12_countsNow_14 rfl (lv_at hl 0 rfl) ?_
        refine z_get (c0 := 12) (i0 := 0) (k0 := 57) (T := TX12) (v := .ref (ad 12 0 58)) S hG (hZ.2.1 (12, 0) (by decide)) rfl inlX12 (by decide) rfl zw_259 rfl dX12_countsNow_15 ?_
        refine lv_iload hx hb dX12_countsNow_18 (lv_at hl 3 rfl) ?_
        obtain ⟨i14, hi14, hf⟩ := zbi hf
        refine z_iald (c0 := 12) (i0 := 0) (k0 := 57) S hG (hZ.2.1 (12, 0) (by decide)) (by decide) rfl hi14 dX12_countsNow_20 ?_
        refine lv_icmp_ge (tgt := 89) hx hb dX12_countsNow_21 (by decide) (fun c15 => ?_) (fun c15 => ?_)
        · have hf := zif_p c15 hf
          cases hf
          have hk12 : (y3l12 : Int32) = t12 := hk12
          have hf := hfo12
          rw [← hk12] at hf
          have hf : ((zck (decide (y3l12 = 0 ∨ y3l12 = 1))).bind fun _ => some y3l12) = some r := hf
          refine lv_iload_n hx hb dX12_countsNow_89 rfl (lv_at hl 4 rfl) ?_
          obtain ⟨_, hzc, hf⟩ := zbi hf
          have hzc := of_decide_eq_true (zck_s hzc)
          have hq := Option.some.inj hf
          subst hq
          exact z_zret S hG hS hlocks hzc hr dX12_countsNow_90
        · have hf := zif_n c15 hf
          refine lv_aload_n hx hb dX12_countsNow_24 rfl (lv_at hl 0 rfl) ?_
          refine z_get (c0 := 12) (i0 := 0) (k0 := 56) (T := TX12) (v := .ref (ad 12 0 57)) S hG (hZ.2.1 (12, 0) (by decide)) rfl inlX12 (by decide) rfl zw_258 rfl dX12_countsNow_25 ?_
          refine lv_bipush (v := 10) hx hb dX12_countsNow_28 (by decide) ?_
          refine lv_iload hx hb dX12_countsNow_30 (lv_at hl 3 rfl) ?_
          refine lv_imul hx hb dX12_countsNow_32 ?_
          refine lv_iload hx hb dX12_countsNow_33 (lv_at hl 5 rfl) ?_
          refine lv_iadd hx hb dX12_countsNow_35 ?_
          obtain ⟨i16, hi16, hf⟩ := zbi hf
          refine z_iald (c0 := 12) (i0 := 0) (k0 := 56) S hG (hZ.2.1 (12, 0) (by decide)) (by decide) rfl hi16 dX12_countsNow_36 ?_
          refine lv_istore (lv' := [(6, .int (zA σ 12 0 56 i16)), (0, .ref (ad 12 0 0)), (1, .int x1), (2, .int x2), (4, .int (f_X12_seat x1 x2)), (3, .int y3l12), (5, .int y5l12)]) hx hb dX12_countsNow_37 hl (by decide) rfl (fun ls hl => ?_)
          refine lv_iload_n hx hb dX12_countsNow_39 rfl (lv_at hl 5 rfl) ?_
          refine lv_if_eq (tgt := 81) hx hb dX12_countsNow_40 (by decide) (fun c17 => ?_) (fun c17 => ?_)
          · have hf := zif_p c17 hf
            exact KJ81_12 y5l12 H locs ls hG hS (lv_sub hl [1, 2, 3, 4, 6] rfl) hf
          · have hf := zif_n c17 hf
            refine lv_aload_n hx hb dX12_countsNow_43 rfl (lv_at hl 1 rfl) ?_
            refine lv_iload_n hx hb dX12_countsNow_44 rfl (lv_at hl 2 rfl) ?_
            refine lv_iload hx hb dX12_countsNow_45 (lv_at hl 0 rfl) ?_
            obtain ⟨r18, er18, hf⟩ := zbi hf
            refine z_callV (n := 2) (rest := []) (st1 := [.int r18]) (c0 := 12) (i0 := 0) (hZ.2.1 (12, 0) (by decide)) (by rfl) S hG hS hZ (fun _ _ h => h) (c_X12_isInRound l D aC zs A nl ad σ x1 (zA σ 12 0 56 i16) r18 er18) zw_1358 zw_1359 zw_1360 zw_5 zw_1361 (by decide +kernel) ⟨rfl, rfl⟩ ⟨(Nat.le_of_ble_eq_true rfl), (Nat.le_of_ble_eq_true rfl)⟩ hl.1 rfl (by rfl) (by rfl) (Nat.le_of_ble_eq_true rfl) dX12_countsNow_47 ⟨Nat.zero_le _, Nat.zero_le _⟩ (fun H locs hz19 hG hS => ?_)
            refine lv_if_eq (tgt := 77) hx hb dX12_countsNow_50 (by decide) (fun c20 => ?_) (fun c20 => ?_)
            · have hf := zif_p c20 hf
              exact KJ77_12 y5l12 H locs ls hG hS (lv_sub hl [1, 2, 3, 4, 6] rfl) hf
            · have hf := zif_n c20 hf
              refine lv_aload_n hx hb dX12_countsNow_53 rfl (lv_at hl 1 rfl) ?_
              refine z_get (c0 := 12) (i0 := 0) (k0 := 55) (T := TX12) (v := .ref (ad 12 0 56)) S hG (hZ.2.1 (12, 0) (by decide)) rfl inlX12 (by decide) rfl zw_257 rfl dX12_countsNow_54 ?_
              refine lv_bipush (v := 40) hx hb dX12_countsNow_57 (by decide) ?_
              refine lv_iload_n hx hb dX12_countsNow_59 rfl (lv_at hl 3 rfl) ?_
              refine lv_imul hx hb dX12_countsNow_60 ?_
              refine lv_aload_n hx hb dX12_countsNow_61 rfl (lv_at hl 1 rfl) ?_
              refine z_get (c0 := 12) (i0 := 0) (k0 := 4) (T := TX12) (v := .ref (ad 12 0 5)) S hG (hZ.2.1 (12, 0) (by decide)) rfl inlX12 (by decide) rfl zw_226 rfl dX12_countsNow_62 ?_
              refine lv_iload hx hb dX12_countsNow_65 (lv_at hl 0 rfl) ?_
              obtain ⟨i21, hi21, hf⟩ := zbi hf
              refine z_iald (c0 := 12) (i0 := 0) (k0 := 4) S hG (hZ.2.1 (12, 0) (by decide)) (by decide) rfl hi21 dX12_countsNow_67 ?_
              refine lv_iadd hx hb dX12_countsNow_68 ?_
              obtain ⟨i22, hi22, hf⟩ := zbi hf
              refine z_iald (c0 := 12) (i0 := 0) (k0 := 55) S hG (hZ.2.1 (12, 0) (by decide)) (by decide) rfl hi22 dX12_countsNow_69 ?_
              refine lv_aload_n hx hb dX12_countsNow_70 rfl (lv_at hl 1 rfl) ?_
              refine z_get (c0 := 12) (i0 := 0) (k0 := 0) (T := TX12) (v := .int (zI σ 12 0 0)) S hG (hZ.2.1 (12, 0) (by decide)) rfl inlX12 (by decide) rfl zw_278 rfl dX12_countsNow_71 ?_
              have Kv25 : ∀ (v25 : Int32) (ls : Array Slot), lv_has ls 7 [(6, .int (zA σ 12 0 56 i16)), (0, .ref (ad 12 0 0)), (1, .int x1), (2, .int x2), (4, .int (f_X12_seat x1 x2)), (3, .int y3l12), (5, .int y5l12)] → (some (.inl (v25, (y5l12 + 1)))) = some rr12 → zWk p l e ({ frames := 1, cells := 0, slots := 0, locals := 22 } : Room) s m args below meth c A (some (.int r)) (fun t => zG D aC A nl ad σ t t.heap ∧ (r = 0 ∨ r = 1)) H locs (F0 m 82 ls [.int v25]) := by
                intro v25 ls hl hf
                refine lv_istore_n (lv' := [(3, .int v25), (6, .int (zA σ 12 0 56 i16)), (0, .ref (ad 12 0 0)), (1, .int x1), (2, .int x2), (4, .int (f_X12_seat x1 x2)), (5, .int y5l12)]) hx hb dX12_countsNow_82 rfl hl (by decide) rfl (fun ls hl => ?_)
                refine lv_iinc (v := (y5l12 + 1)) (lv' := [(5, .int (y5l12 + 1)), (3, .int v25), (6, .int (zA σ 12 0 56 i16)), (0, .ref (ad 12 0 0)), (1, .int x1), (2, .int x2), (4, .int (f_X12_seat x1 x2))]) hx hb dX12_countsNow_83 hl (k := 6) rfl rfl (by decide) rfl (fun ls hl => ?_)
                refine lv_goto (tgt := 12) hx hb dX12_countsNow_86 (by decide) ?_
                cases hf
                exact ih12 v25 (y5l12 + 1) H locs ls hG hS (lv_sub hl [3, 4, 5, 6, 1, 0] rfl) hk12
              refine lv_icmp_le (tgt := 81) hx hb dX12_countsNow_74 (by decide) (fun c24 => ?_) (fun c24 => ?_)
              · rw [if_pos c24] at hf
                refine lv_iconst (v := 0) hx hb dX12_countsNow_81 (by decide) ?_
                exact Kv25 _ ls hl hf
              · rw [if_neg c24] at hf
                refine lv_iconst (v := 1) hx hb dX12_countsNow_77 (by decide) ?_
                refine lv_goto (tgt := 82) hx hb dX12_countsNow_78 (by decide) ?_
                exact Kv25 _ ls hl hf
    exact KL12 zFu 1 0 H locs ls hG hS (lv_sub hl [3, 4, 5, 1, 2, 0] rfl) hw12
  exact hK0 _ _ ls hG hS hl hf
set_option maxRecDepth 100000 in
set_option maxHeartbeats 4000000 in
theorem c_X12_counts (l : Launch) (D : va_G) (aC : Nat → ClassId) (zs : Nat × Nat) (A : Nat → Prop) (nl : zNL) (ad : Nat → Nat → Nat → Nat) (σ : zM) (x1 : Int32) (x2 : Int32) (r : Int32)  (hf : f_X12_counts σ x1 x2 = some r) : Met l yX12_counts (Cond.code yX12_counts cX12_counts 3 (some .boolean) :: wsL_law) ({ frames := 2, cells := 0, slots := 0, locals := 48 } : Room) (zP D aC zs zfM A nl ad σ [.ref (ad 12 0 0), .int x1, .int x2]) (zQ (some (.int r)) (fun t => zG D aC A nl ad σ t t.heap ∧ (r = 0 ∨ r = 1)) A) 0 0 A := by
  refine Met.ofW (cc := cX12_counts) (maxL := 3) (ret := (some .boolean)) (by decide) rfl ?_
  intro p e s m args below meth c s₁ B hml hv
  obtain ⟨rfl, hG, hZ⟩ := hv
  have hx := B.exec
  have hb := B.bytes
  have hr := B.returns
  have hts : ∀ w ∈ wsL_law, w.before ([.ref (ad 12 0 0), .int x1, .int x2] : List Value).toArray s = true := fun w h => (atoms_spec B.pre) w (List.mem_cons_of_mem _ h)
  have hown : s.vm.findClass RX12 = some m.cls := findClass_of_methodNamed B.named
  have hlocks := B.notSynchronized
  have S : zS p m c cX12_counts 3 s ([.ref (ad 12 0 0), .int x1, .int x2] : List Value).toArray RX12 := ⟨hx, hb, hml, hown, hts⟩
  have hS : va_S A s.heap s.heap [] := va_S.rf
  have hl := lv_entry ([.ref (ad 12 0 0), .int x1, .int x2]) (n := 3) (Nat.le_of_ble_eq_true rfl)
  rw [lg_entry_eq]
  generalize (lg_sl ([.ref (ad 12 0 0), .int x1, .int x2]) ++ List.replicate (3 - (lg_sl ([.ref (ad 12 0 0), .int x1, .int x2])).length) Slot.unset).toArray = ls at hl ⊢
  have hl : lv_has ls 3 [(0, .ref (ad 12 0 0)), (1, .int x1), (2, .int x2)] := hl
  generalize hargs : ([.ref (ad 12 0 0), .int x1, .int x2] : List Value).toArray = args at S hts ⊢
  clear hargs
  have hK0 : ∀ (H : Heap) (locs : List Loc) (ls : Array Slot), zG D aC A nl ad σ s H → va_S A s.heap H locs → lv_has ls 3 [(0, .ref (ad 12 0 0)), (1, .int x1), (2, .int x2)] → f_X12_counts σ x1 x2 = some r → zWk p l e ({ frames := 2, cells := 0, slots := 0, locals := 48 } : Room) s m args below meth c A (some (.int r)) (fun t => zG D aC A nl ad σ t t.heap ∧ (r = 0 ∨ r = 1)) H locs (F0 m 0 ls []) := by
    intro H locs ls hG hS hl hf
    unfold f_X12_counts at hf
    refine lv_iload_n hx hb dX12_counts_0 rfl (lv_at hl 1 rfl) ?_
    refine lv_aload_n hx hb dX12_counts_1 rfl (lv_at hl 0 rfl) ?_
    refine z_get (c0 := 12) (i0 := 0) (k0 := 50) (T := TX12) (v := .int (zI σ 12 0 50)) S hG (hZ.2.1 (12, 0) (by decide)) rfl inlX12 (by decide) rfl zw_1352 rfl dX12_counts_2 ?_
    refine lv_icmp_ge (tgt := 30) hx hb dX12_counts_5 (by decide) (fun c1 => ?_) (fun c1 => ?_)
    · have hf := zif_p c1 hf
      refine lv_aload_n hx hb dX12_counts_30 rfl (lv_at hl 0 rfl) ?_
      refine lv_iload_n hx hb dX12_counts_31 rfl (lv_at hl 1 rfl) ?_
      refine lv_iload_n hx hb dX12_counts_32 rfl (lv_at hl 2 rfl) ?_
      obtain ⟨r2, er2, hf⟩ := zbi hf
      refine z_callV (n := 2) (rest := []) (st1 := [.int r2]) (c0 := 12) (i0 := 0) (hZ.2.1 (12, 0) (by decide)) (by rfl) S hG hS hZ (fun _ _ h => h) (c_X12_countsNow l D aC zs A nl ad σ x1 x2 r2 er2) zw_1354 zw_1355 zw_1356 zw_5 zw_1357 (by decide +kernel) ⟨rfl, rfl⟩ ⟨(Nat.le_of_ble_eq_true rfl), (Nat.le_of_ble_eq_true rfl)⟩ hl.1 rfl (by rfl) (by rfl) (Nat.le_of_ble_eq_true rfl) dX12_counts_33 ⟨Nat.zero_le _, Nat.zero_le _⟩ (fun H locs hz3 hG hS => ?_)
      have hq := (Option.some.inj hf)
      subst hq
      exact z_zret S hG hS hlocks hz3 hr dX12_counts_36
    · have hf := zif_n c1 hf
      refine lv_aload_n hx hb dX12_counts_8 rfl (lv_at hl 0 rfl) ?_
      refine z_get (c0 := 12) (i0 := 0) (k0 := 59) (T := TX12) (v := .ref (ad 12 0 60)) S hG (hZ.2.1 (12, 0) (by decide)) rfl inlX12 (by decide) rfl zw_261 rfl dX12_counts_9 ?_
      refine lv_iload_n hx hb dX12_counts_12 rfl (lv_at hl 1 rfl) ?_
      obtain ⟨i4, hi4, hf⟩ := zbi hf
      refine z_iald (c0 := 12) (i0 := 0) (k0 := 59) S hG (hZ.2.1 (12, 0) (by decide)) (by decide) rfl hi4 dX12_counts_13 ?_
      refine lv_iload_n hx hb dX12_counts_14 rfl (lv_at hl 2 rfl) ?_
      refine lv_ishr hx hb dX12_counts_15 ?_
      refine lv_iconst (v := 1) hx hb dX12_counts_16 (by decide) ?_
      refine lv_iand hx hb dX12_counts_17 ?_
      refine lv_iconst (v := 1) hx hb dX12_counts_18 (by decide) ?_
      refine lv_icmp_ne (tgt := 26) hx hb dX12_counts_19 (by decide) (fun c5 => ?_) (fun c5 => ?_)
      · have hf := zif_n c5 hf
        refine lv_iconst (v := 0) hx hb dX12_counts_26 (by decide) ?_
        refine lv_goto (tgt := 36) hx hb dX12_counts_27 (by decide) ?_
        have hq := (Option.some.inj hf)
        subst hq
        exact z_zret S hG hS hlocks (Or.inl rfl) hr dX12_counts_36
      · have hf := zif_p c5 hf
        refine lv_iconst (v := 1) hx hb dX12_counts_22 (by decide) ?_
        refine lv_goto (tgt := 36) hx hb dX12_counts_23 (by decide) ?_
        have hq := (Option.some.inj hf)
        subst hq
        exact z_zret S hG hS hlocks (Or.inr rfl) hr dX12_counts_36
  exact hK0 _ _ ls hG hS hl hf
set_option maxRecDepth 100000 in
set_option maxHeartbeats 4000000 in
theorem c_X12_placeIn (l : Launch) (D : va_G) (aC : Nat → ClassId) (zs : Nat × Nat) (A : Nat → Prop) (nl : zNL) (ad : Nat → Nat → Nat → Nat) (σ : zM) (x1 : Int32) (x2 : Int32) (x3 : Int32) (r : Int32)  (hf : f_X12_placeIn σ x1 x2 x3 = some r) : Met l yX12_placeIn (Cond.code yX12_placeIn cX12_placeIn 8 (some .int) :: wsL_law) ({ frames := 1, cells := 0, slots := 0, locals := 22 } : Room) (zP D aC zs zfM A nl ad σ [.ref (ad 12 0 0), .int x1, .int x2, .int x3]) (zQ (some (.int r)) (fun t => zG D aC A nl ad σ t t.heap ∧ True) A) 0 0 A := by
  refine Met.ofW (cc := cX12_placeIn) (maxL := 8) (ret := (some .int)) (by decide) rfl ?_
  intro p e s m args below meth c s₁ B hml hv
  obtain ⟨rfl, hG, hZ⟩ := hv
  have hx := B.exec
  have hb := B.bytes
  have hr := B.returns
  have hts : ∀ w ∈ wsL_law, w.before ([.ref (ad 12 0 0), .int x1, .int x2, .int x3] : List Value).toArray s = true := fun w h => (atoms_spec B.pre) w (List.mem_cons_of_mem _ h)
  have hown : s.vm.findClass RX12 = some m.cls := findClass_of_methodNamed B.named
  have hlocks := B.notSynchronized
  have S : zS p m c cX12_placeIn 8 s ([.ref (ad 12 0 0), .int x1, .int x2, .int x3] : List Value).toArray RX12 := ⟨hx, hb, hml, hown, hts⟩
  have hS : va_S A s.heap s.heap [] := va_S.rf
  have hl := lv_entry ([.ref (ad 12 0 0), .int x1, .int x2, .int x3]) (n := 8) (Nat.le_of_ble_eq_true rfl)
  rw [lg_entry_eq]
  generalize (lg_sl ([.ref (ad 12 0 0), .int x1, .int x2, .int x3]) ++ List.replicate (8 - (lg_sl ([.ref (ad 12 0 0), .int x1, .int x2, .int x3])).length) Slot.unset).toArray = ls at hl ⊢
  have hl : lv_has ls 8 [(0, .ref (ad 12 0 0)), (1, .int x1), (2, .int x2), (3, .int x3)] := hl
  generalize hargs : ([.ref (ad 12 0 0), .int x1, .int x2, .int x3] : List Value).toArray = args at S hts ⊢
  clear hargs
  have hK0 : ∀ (H : Heap) (locs : List Loc) (ls : Array Slot), zG D aC A nl ad σ s H → va_S A s.heap H locs → lv_has ls 8 [(0, .ref (ad 12 0 0)), (1, .int x1), (2, .int x2), (3, .int x3)] → f_X12_placeIn σ x1 x2 x3 = some r → zWk p l e ({ frames := 1, cells := 0, slots := 0, locals := 22 } : Room) s m args below meth c A (some (.int r)) (fun t => zG D aC A nl ad σ t t.heap ∧ True) H locs (F0 m 0 ls []) := by
    intro H locs ls hG hS hl hf
    unfold f_X12_placeIn at hf
    refine lv_iload_n hx hb dX12_placeIn_0 rfl (lv_at hl 1 rfl) ?_
    refine lv_iload_n hx hb dX12_placeIn_1 rfl (lv_at hl 2 rfl) ?_
    refine z_callS (n := 2) (rest := []) (st1 := [.int (f_X12_seat x1 x2)]) S hG hS hZ (fun _ _ h => h) (c_X12_seat l D aC zs A nl ad σ x1 x2 (f_X12_seat x1 x2) rfl) zw_1275 zw_1276 zw_5 zw_1277 (by decide +kernel) ⟨rfl, rfl⟩ ⟨(Nat.le_of_ble_eq_true rfl), (Nat.le_of_ble_eq_true rfl)⟩ hl.1 rfl (by rfl) (by rfl) (Nat.le_of_ble_eq_true rfl) dX12_placeIn_2 ⟨Nat.zero_le _, Nat.zero_le _⟩ (fun H locs hz1 hG hS => ?_)
    refine lv_istore (lv' := [(4, .int (f_X12_seat x1 x2)), (0, .ref (ad 12 0 0)), (1, .int x1), (2, .int x2), (3, .int x3)]) hx hb dX12_placeIn_5 hl (by decide) rfl (fun ls hl => ?_)
    refine lv_iconst (v := 0) hx hb dX12_placeIn_7 (by decide) ?_
    refine lv_istore (lv' := [(5, .int 0), (4, .int (f_X12_seat x1 x2)), (0, .ref (ad 12 0 0)), (1, .int x1), (2, .int x2), (3, .int x3)]) hx hb dX12_placeIn_8 hl (by decide) rfl (fun ls hl => ?_)
    refine lv_iconst (v := 0) hx hb dX12_placeIn_10 (by decide) ?_
    refine lv_istore (lv' := [(6, .int 0), (5, .int 0), (4, .int (f_X12_seat x1 x2)), (0, .ref (ad 12 0 0)), (1, .int x1), (2, .int x2), (3, .int x3)]) hx hb dX12_placeIn_11 hl (by decide) rfl (fun ls hl => ?_)
    obtain ⟨t13, hw13, hfo13⟩ := zbi hf
    have KL13 : ∀ (n : Nat) (y5l13 : Int32) (y6l13 : Int32) (H : Heap) (locs : List Loc) (ls : Array Slot), zG D aC A nl ad σ s H → va_S A s.heap H locs → lv_has ls 8 [(0, .ref (ad 12 0 0)), (1, .int x1), (2, .int x2), (3, .int x3), (4, .int (f_X12_seat x1 x2)), (5, .int y5l13), (6, .int y6l13)] → zwh (fun (q : (Int32 × Int32)) => f_X12_placeIn_L13 σ x1 x2 x3 (f_X12_seat x1 x2) q.1 q.2) n (y5l13, y6l13) = some t13 → zWk p l e ({ frames := 1, cells := 0, slots := 0, locals := 22 } : Room) s m args below meth c A (some (.int r)) (fun t => zG D aC A nl ad σ t t.heap ∧ True) H locs (F0 m 13 ls []) := by
      intro n
      induction n with
      | zero =>
        intro y5l13 y6l13 H locs ls hG hS hl hw
        exact (zwh_0 hw).elim
      | succ n ih13 =>
        intro y5l13 y6l13 H locs ls hG hS hl hw
        obtain ⟨rr13, hf, hk13⟩ := zwh_u hw
        have hf : f_X12_placeIn_L13 σ x1 x2 x3 (f_X12_seat x1 x2) y5l13 y6l13 = some rr13 := hf
        unfold f_X12_placeIn_L13 at hf
        refine lv_iload hx hb dX12_placeIn_13 (lv_at hl 6 rfl) ?_
        refine lv_aload_n hx hb dX12_placeIn_15 rfl (lv_at hl 0 rfl) ?_
        refine z_get (c0 := 12) (i0 := 0) (k0 := 57) (T := TX12) (v := .ref (ad 12 0 58)) S hG (hZ.2.1 (12, 0) (by decide)) rfl inlX12 (by decide) rfl zw_259 rfl dX12_placeIn_16 ?_
        refine lv_iload hx hb dX12_placeIn_19 (lv_at hl 4 rfl) ?_
        obtain ⟨i9, hi9, hf⟩ := zbi hf
        refine z_iald (c0 := 12) (i0 := 0) (k0 := 57) S hG (hZ.2.1 (12, 0) (by decide)) (by decide) rfl hi9 dX12_placeIn_21 ?_
        refine lv_icmp_ge (tgt := 70) hx hb dX12_placeIn_22 (by decide) (fun c10 => ?_) (fun c10 => ?_)
        · have hf := zif_p c10 hf
          cases hf
          have hk13 : ((.inr ()) : (Int32 ⊕ Unit)) = t13 := hk13
          have hf := hfo13
          rw [← hk13] at hf
          have hf : (some (-1)) = some r := hf
          refine lv_iconst (v := (-1)) hx hb dX12_placeIn_70 (by decide) ?_
          have hq := (Option.some.inj hf)
          subst hq
          exact z_iret S hG hS hlocks trivial hr dX12_placeIn_71
        · have hf := zif_n c10 hf
          refine lv_aload_n hx hb dX12_placeIn_25 rfl (lv_at hl 0 rfl) ?_
          refine z_get (c0 := 12) (i0 := 0) (k0 := 56) (T := TX12) (v := .ref (ad 12 0 57)) S hG (hZ.2.1 (12, 0) (by decide)) rfl inlX12 (by decide) rfl zw_258 rfl dX12_placeIn_26 ?_
          refine lv_bipush (v := 10) hx hb dX12_placeIn_29 (by decide) ?_
          refine lv_iload hx hb dX12_placeIn_31 (lv_at hl 4 rfl) ?_
          refine lv_imul hx hb dX12_placeIn_33 ?_
          refine lv_iload hx hb dX12_placeIn_34 (lv_at hl 6 rfl) ?_
          refine lv_iadd hx hb dX12_placeIn_36 ?_
          obtain ⟨i11, hi11, hf⟩ := zbi hf
          refine z_iald (c0 := 12) (i0 := 0) (k0 := 56) S hG (hZ.2.1 (12, 0) (by decide)) (by decide) rfl hi11 dX12_placeIn_37 ?_
          refine lv_istore (lv' := [(7, .int (zA σ 12 0 56 i11)), (0, .ref (ad 12 0 0)), (1, .int x1), (2, .int x2), (3, .int x3), (4, .int (f_X12_seat x1 x2)), (5, .int y5l13), (6, .int y6l13)]) hx hb dX12_placeIn_38 hl (by decide) rfl (fun ls hl => ?_)
          refine lv_iload hx hb dX12_placeIn_40 (lv_at hl 0 rfl) ?_
          refine lv_iload_n hx hb dX12_placeIn_42 rfl (lv_at hl 4 rfl) ?_
          refine lv_icmp_ne (tgt := 49) hx hb dX12_placeIn_43 (by decide) (fun c12 => ?_) (fun c12 => ?_)
          · have hf := zif_n c12 hf
            refine lv_iload hx hb dX12_placeIn_49 (lv_at hl 6 rfl) ?_
            refine lv_aload_n hx hb dX12_placeIn_51 rfl (lv_at hl 1 rfl) ?_
            refine lv_iload_n hx hb dX12_placeIn_52 rfl (lv_at hl 2 rfl) ?_
            refine lv_iload hx hb dX12_placeIn_53 (lv_at hl 0 rfl) ?_
            obtain ⟨r13, er13, hf⟩ := zbi hf
            refine z_callV (n := 2) (rest := [.int y5l13]) (st1 := [.int r13, .int y5l13]) (c0 := 12) (i0 := 0) (hZ.2.1 (12, 0) (by decide)) (by rfl) S hG hS hZ (fun _ _ h => h) (c_X12_isInRound l D aC zs A nl ad σ x1 (zA σ 12 0 56 i11) r13 er13) zw_1358 zw_1359 zw_1360 zw_5 zw_1361 (by decide +kernel) ⟨rfl, rfl⟩ ⟨(Nat.le_of_ble_eq_true rfl), (Nat.le_of_ble_eq_true rfl)⟩ hl.1 rfl (by rfl) (by rfl) (Nat.le_of_ble_eq_true rfl) dX12_placeIn_55 ⟨Nat.zero_le _, Nat.zero_le _⟩ (fun H locs hz14 hG hS => ?_)
            refine z_callS (n := 1) (rest := [.int y5l13]) (st1 := [.int (f_X12_one r13), .int y5l13]) S hG hS hZ (fun _ _ h => h) (c_X12_one l D aC zs A nl ad σ r13 (f_X12_one r13) rfl) zw_903 zw_904 zw_5 zw_905 (by decide +kernel) ⟨rfl, rfl⟩ ⟨(Nat.le_of_ble_eq_true rfl), (Nat.le_of_ble_eq_true rfl)⟩ hl.1 rfl (by rfl) (by rfl) (Nat.le_of_ble_eq_true rfl) dX12_placeIn_58 ⟨Nat.zero_le _, Nat.zero_le _⟩ (fun H locs hz15 hG hS => ?_)
            refine lv_iadd hx hb dX12_placeIn_61 ?_
            refine lv_istore (lv' := [(5, .int (y5l13 + (f_X12_one r13))), (7, .int (zA σ 12 0 56 i11)), (0, .ref (ad 12 0 0)), (1, .int x1), (2, .int x2), (3, .int x3), (4, .int (f_X12_seat x1 x2)), (6, .int y6l13)]) hx hb dX12_placeIn_62 hl (by decide) rfl (fun ls hl => ?_)
            refine lv_iinc (v := (y6l13 + 1)) (lv' := [(6, .int (y6l13 + 1)), (5, .int (y5l13 + (f_X12_one r13))), (7, .int (zA σ 12 0 56 i11)), (0, .ref (ad 12 0 0)), (1, .int x1), (2, .int x2), (3, .int x3), (4, .int (f_X12_seat x1 x2))]) hx hb dX12_placeIn_64 hl (k := 7) rfl rfl (by decide) rfl (fun ls hl => ?_)
            refine lv_goto (tgt := 13) hx hb dX12_placeIn_67 (by decide) ?_
            cases hf
            exact ih13 (y5l13 + (f_X12_one r13)) (y6l13 + 1) H locs ls hG hS (lv_sub hl [3, 4, 5, 6, 7, 1, 0] rfl) hk13
          · have hf := zif_p c12 hf
            cases hf
            have hk13 : ((.inl y5l13) : (Int32 ⊕ Unit)) = t13 := hk13
            have hf := hfo13
            rw [← hk13] at hf
            have hf : (some y5l13) = some r := hf
            refine lv_iload hx hb dX12_placeIn_46 (lv_at hl 6 rfl) ?_
            have hq := (Option.some.inj hf)
            subst hq
            exact z_iret S hG hS hlocks trivial hr dX12_placeIn_48
    exact KL13 zFu 0 0 H locs ls hG hS (lv_sub hl [3, 4, 5, 6, 2, 1, 0] rfl) hw13
  exact hK0 _ _ ls hG hS hl hf
set_option maxRecDepth 100000 in
set_option maxHeartbeats 4000000 in
theorem c_X12_bits (l : Launch) (D : va_G) (aC : Nat → ClassId) (zs : Nat × Nat) (A : Nat → Prop) (nl : zNL) (ad : Nat → Nat → Nat → Nat) (σ : zM) (x0 : Int32) (r : Int32)  (hf : f_X12_bits x0 = some r) : Met l yX12_bits (Cond.code yX12_bits cX12_bits 3 (some .int) :: wsL_law) ({ frames := 0, cells := 0, slots := 0, locals := 0 } : Room) (zP D aC zs zfM A nl ad σ [.int x0]) (zQ (some (.int r)) (fun t => zG D aC A nl ad σ t t.heap ∧ True) A) 0 0 A := by
  refine Met.ofW (cc := cX12_bits) (maxL := 3) (ret := (some .int)) (by decide) rfl ?_
  intro p e s m args below meth c s₁ B hml hv
  obtain ⟨rfl, hG, hZ⟩ := hv
  have hx := B.exec
  have hb := B.bytes
  have hr := B.returns
  have hts : ∀ w ∈ wsL_law, w.before ([.int x0] : List Value).toArray s = true := fun w h => (atoms_spec B.pre) w (List.mem_cons_of_mem _ h)
  have hown : s.vm.findClass RX12 = some m.cls := findClass_of_methodNamed B.named
  have hlocks := B.notSynchronized
  have S : zS p m c cX12_bits 3 s ([.int x0] : List Value).toArray RX12 := ⟨hx, hb, hml, hown, hts⟩
  have hS : va_S A s.heap s.heap [] := va_S.rf
  have hl := lv_entry ([.int x0]) (n := 3) (Nat.le_of_ble_eq_true rfl)
  rw [lg_entry_eq]
  generalize (lg_sl ([.int x0]) ++ List.replicate (3 - (lg_sl ([.int x0])).length) Slot.unset).toArray = ls at hl ⊢
  have hl : lv_has ls 3 [(0, .int x0)] := hl
  generalize hargs : ([.int x0] : List Value).toArray = args at S hts ⊢
  clear hargs
  have hK0 : ∀ (H : Heap) (locs : List Loc) (ls : Array Slot), zG D aC A nl ad σ s H → va_S A s.heap H locs → lv_has ls 3 [(0, .int x0)] → f_X12_bits x0 = some r → zWk p l e ({ frames := 0, cells := 0, slots := 0, locals := 0 } : Room) s m args below meth c A (some (.int r)) (fun t => zG D aC A nl ad σ t t.heap ∧ True) H locs (F0 m 0 ls []) := by
    intro H locs ls hG hS hl hf
    unfold f_X12_bits at hf
    refine lv_iconst (v := 0) hx hb dX12_bits_0 (by decide) ?_
    refine lv_istore_n (lv' := [(1, .int 0), (0, .int x0)]) hx hb dX12_bits_1 rfl hl (by decide) rfl (fun ls hl => ?_)
    refine lv_iload_n hx hb dX12_bits_2 rfl (lv_at hl 1 rfl) ?_
    refine lv_istore_n (lv' := [(2, .int x0), (1, .int 0), (0, .int x0)]) hx hb dX12_bits_3 rfl hl (by decide) rfl (fun ls hl => ?_)
    obtain ⟨t4, hw4, hfo4⟩ := zbi hf
    have KL4 : ∀ (n : Nat) (y1l4 : Int32) (y2l4 : Int32) (H : Heap) (locs : List Loc) (ls : Array Slot), zG D aC A nl ad σ s H → va_S A s.heap H locs → lv_has ls 3 [(0, .int x0), (1, .int y1l4), (2, .int y2l4)] → zwh (fun (q : (Int32 × Int32)) => f_X12_bits_L4 x0 q.1 q.2) n (y1l4, y2l4) = some t4 → zWk p l e ({ frames := 0, cells := 0, slots := 0, locals := 0 } : Room) s m args below meth c A (some (.int r)) (fun t => zG D aC A nl ad σ t t.heap ∧ True) H locs (F0 m 4 ls []) := by
      intro n
      induction n with
      | zero =>
        intro y1l4 y2l4 H locs ls hG hS hl hw
        exact (zwh_0 hw).elim
      | succ n ih4 =>
        intro y1l4 y2l4 H locs ls hG hS hl hw
        obtain ⟨rr4, hf, hk4⟩ := zwh_u hw
        have hf : f_X12_bits_L4 x0 y1l4 y2l4 = some rr4 := hf
        unfold f_X12_bits_L4 at hf
        refine lv_iload_n hx hb dX12_bits_4 rfl (lv_at hl 2 rfl) ?_
        refine lv_if_le (tgt := 21) hx hb dX12_bits_5 (by decide) (fun c2 => ?_) (fun c2 => ?_)
        · have hf := zif_p c2 hf
          cases hf
          have hk4 : (y1l4 : Int32) = t4 := hk4
          have hf := hfo4
          rw [← hk4] at hf
          have hf : (some y1l4) = some r := hf
          refine lv_iload_n hx hb dX12_bits_21 rfl (lv_at hl 1 rfl) ?_
          have hq := (Option.some.inj hf)
          subst hq
          exact z_iret S hG hS hlocks trivial hr dX12_bits_22
        · have hf := zif_n c2 hf
          refine lv_iload_n hx hb dX12_bits_8 rfl (lv_at hl 1 rfl) ?_
          refine lv_iload_n hx hb dX12_bits_9 rfl (lv_at hl 2 rfl) ?_
          refine lv_iconst (v := 1) hx hb dX12_bits_10 (by decide) ?_
          refine lv_iand hx hb dX12_bits_11 ?_
          refine lv_iadd hx hb dX12_bits_12 ?_
          refine lv_istore_n (lv' := [(1, .int (y1l4 + (y2l4 &&& 1))), (0, .int x0), (2, .int y2l4)]) hx hb dX12_bits_13 rfl hl (by decide) rfl (fun ls hl => ?_)
          refine lv_iload_n hx hb dX12_bits_14 rfl (lv_at hl 2 rfl) ?_
          refine lv_iconst (v := 1) hx hb dX12_bits_15 (by decide) ?_
          refine lv_ishr hx hb dX12_bits_16 ?_
          refine lv_istore_n (lv' := [(2, .int (y2l4 >>> (1 &&& 31))), (1, .int (y1l4 + (y2l4 &&& 1))), (0, .int x0)]) hx hb dX12_bits_17 rfl hl (by decide) rfl (fun ls hl => ?_)
          refine lv_goto (tgt := 4) hx hb dX12_bits_18 (by decide) ?_
          cases hf
          exact ih4 (y1l4 + (y2l4 &&& 1)) (y2l4 >>> (1 &&& 31)) H locs ls hG hS (lv_sub hl [2, 1, 0] rfl) hk4
    exact KL4 zFu 0 x0 H locs ls hG hS (lv_sub hl [2, 1, 0] rfl) hw4
  exact hK0 _ _ ls hG hS hl hf
set_option maxRecDepth 100000 in
set_option maxHeartbeats 4000000 in
theorem c_X12_against (l : Launch) (D : va_G) (aC : Nat → ClassId) (zs : Nat × Nat) (A : Nat → Prop) (nl : zNL) (ad : Nat → Nat → Nat → Nat) (σ : zM) (x1 : Int32) (x2 : Int32) (x3 : Int32) (r : Int32)  (hf : f_X12_against σ x1 x2 x3 = some r) : Met l yX12_against (Cond.code yX12_against cX12_against 8 (some .int) :: wsL_law) ({ frames := 3, cells := 0, slots := 0, locals := 70 } : Room) (zP D aC zs zfM A nl ad σ [.ref (ad 12 0 0), .int x1, .int x2, .int x3]) (zQ (some (.int r)) (fun t => zG D aC A nl ad σ t t.heap ∧ True) A) 0 0 A := by
  refine Met.ofW (cc := cX12_against) (maxL := 8) (ret := (some .int)) (by decide) rfl ?_
  intro p e s m args below meth c s₁ B hml hv
  obtain ⟨rfl, hG, hZ⟩ := hv
  have hx := B.exec
  have hb := B.bytes
  have hr := B.returns
  have hts : ∀ w ∈ wsL_law, w.before ([.ref (ad 12 0 0), .int x1, .int x2, .int x3] : List Value).toArray s = true := fun w h => (atoms_spec B.pre) w (List.mem_cons_of_mem _ h)
  have hown : s.vm.findClass RX12 = some m.cls := findClass_of_methodNamed B.named
  have hlocks := B.notSynchronized
  have S : zS p m c cX12_against 8 s ([.ref (ad 12 0 0), .int x1, .int x2, .int x3] : List Value).toArray RX12 := ⟨hx, hb, hml, hown, hts⟩
  have hS : va_S A s.heap s.heap [] := va_S.rf
  have hl := lv_entry ([.ref (ad 12 0 0), .int x1, .int x2, .int x3]) (n := 8) (Nat.le_of_ble_eq_true rfl)
  rw [lg_entry_eq]
  generalize (lg_sl ([.ref (ad 12 0 0), .int x1, .int x2, .int x3]) ++ List.replicate (8 - (lg_sl ([.ref (ad 12 0 0), .int x1, .int x2, .int x3])).length) Slot.unset).toArray = ls at hl ⊢
  have hl : lv_has ls 8 [(0, .ref (ad 12 0 0)), (1, .int x1), (2, .int x2), (3, .int x3)] := hl
  generalize hargs : ([.ref (ad 12 0 0), .int x1, .int x2, .int x3] : List Value).toArray = args at S hts ⊢
  clear hargs
  have KJ98 : ∀ (y4b98 : Int32)   (H : Heap) (locs : List Loc) (ls : Array Slot), zG D aC A nl ad σ s H → va_S A s.heap H locs → lv_has ls 8 [(0, .ref (ad 12 0 0)), (1, .int x1), (2, .int x2), (3, .int x3), (4, .int y4b98)] → (f_X12_against_B98 σ x1 x2 x3 y4b98) = some r → zWk p l e ({ frames := 3, cells := 0, slots := 0, locals := 70 } : Room) s m args below meth c A (some (.int r)) (fun t => zG D aC A nl ad σ t t.heap ∧ True) H locs (F0 m 98 ls []) := by
    intro y4b98   H locs ls hG hS hl hf
    unfold f_X12_against_B98 at hf
    refine lv_iload hx hb dX12_against_98 (lv_at hl 4 rfl) ?_
    refine lv_if_le (tgt := 107) hx hb dX12_against_100 (by decide) (fun c2 => ?_) (fun c2 => ?_)
    · have hf := zif_p c2 hf
      refine lv_iload hx hb dX12_against_107 (lv_at hl 4 rfl) ?_
      refine lv_if_ne (tgt := 116) hx hb dX12_against_109 (by decide) (fun c3 => ?_) (fun c3 => ?_)
      · have hf := zif_n c3 hf
        refine lv_iconst (v := 0) hx hb dX12_against_116 (by decide) ?_
        have hq := (Option.some.inj hf)
        subst hq
        exact z_iret S hG hS hlocks trivial hr dX12_against_117
      · have hf := zif_p c3 hf
        refine lv_iconst (v := 1) hx hb dX12_against_112 (by decide) ?_
        refine lv_goto (tgt := 117) hx hb dX12_against_113 (by decide) ?_
        have hq := (Option.some.inj hf)
        subst hq
        exact z_iret S hG hS hlocks trivial hr dX12_against_117
    · have hf := zif_n c2 hf
      refine lv_iconst (v := 2) hx hb dX12_against_103 (by decide) ?_
      refine lv_goto (tgt := 117) hx hb dX12_against_104 (by decide) ?_
      have hq := (Option.some.inj hf)
      subst hq
      exact z_iret S hG hS hlocks trivial hr dX12_against_117
  have hK0 : ∀ (H : Heap) (locs : List Loc) (ls : Array Slot), zG D aC A nl ad σ s H → va_S A s.heap H locs → lv_has ls 8 [(0, .ref (ad 12 0 0)), (1, .int x1), (2, .int x2), (3, .int x3)] → f_X12_against σ x1 x2 x3 = some r → zWk p l e ({ frames := 3, cells := 0, slots := 0, locals := 70 } : Room) s m args below meth c A (some (.int r)) (fun t => zG D aC A nl ad σ t t.heap ∧ True) H locs (F0 m 0 ls []) := by
    intro H locs ls hG hS hl hf
    unfold f_X12_against at hf
    refine lv_iconst (v := 0) hx hb dX12_against_0 (by decide) ?_
    refine lv_istore (lv' := [(4, .int 0), (0, .ref (ad 12 0 0)), (1, .int x1), (2, .int x2), (3, .int x3)]) hx hb dX12_against_1 hl (by decide) rfl (fun ls hl => ?_)
    refine lv_iconst (v := 0) hx hb dX12_against_3 (by decide) ?_
    refine lv_istore (lv' := [(5, .int 0), (4, .int 0), (0, .ref (ad 12 0 0)), (1, .int x1), (2, .int x2), (3, .int x3)]) hx hb dX12_against_4 hl (by decide) rfl (fun ls hl => ?_)
    obtain ⟨t6, hw6, hfo6⟩ := zbi hf
    have KL6 : ∀ (n : Nat) (y4l6 : Int32) (y5l6 : Int32) (H : Heap) (locs : List Loc) (ls : Array Slot), zG D aC A nl ad σ s H → va_S A s.heap H locs → lv_has ls 8 [(0, .ref (ad 12 0 0)), (1, .int x1), (2, .int x2), (3, .int x3), (4, .int y4l6), (5, .int y5l6)] → zwh (fun (q : (Int32 × Int32)) => f_X12_against_L6 σ x1 x2 x3 q.1 q.2) n (y4l6, y5l6) = some t6 → zWk p l e ({ frames := 3, cells := 0, slots := 0, locals := 70 } : Room) s m args below meth c A (some (.int r)) (fun t => zG D aC A nl ad σ t t.heap ∧ True) H locs (F0 m 6 ls []) := by
      intro n
      induction n with
      | zero =>
        intro y4l6 y5l6 H locs ls hG hS hl hw
        exact (zwh_0 hw).elim
      | succ n ih6 =>
        intro y4l6 y5l6 H locs ls hG hS hl hw
        obtain ⟨rr6, hf, hk6⟩ := zwh_u hw
        have hf : f_X12_against_L6 σ x1 x2 x3 y4l6 y5l6 = some rr6 := hf
        unfold f_X12_against_L6 at hf
        have KJ92_6 : ∀ (y4b92 : Int32) (y5b92 : Int32)   (H : Heap) (locs : List Loc) (ls : Array Slot), zG D aC A nl ad σ s H → va_S A s.heap H locs → lv_has ls 8 [(0, .ref (ad 12 0 0)), (1, .int x1), (2, .int x2), (3, .int x3), (4, .int y4b92), (5, .int y5b92)] → (f_X12_against_B92_6 σ x1 x2 x3 y4b92 y5b92) = some rr6 → zWk p l e ({ frames := 3, cells := 0, slots := 0, locals := 70 } : Room) s m args below meth c A (some (.int r)) (fun t => zG D aC A nl ad σ t t.heap ∧ True) H locs (F0 m 92 ls []) := by
          intro y4b92 y5b92   H locs ls hG hS hl hf
          unfold f_X12_against_B92_6 at hf
          refine lv_iinc (v := (y5b92 + 1)) (lv' := [(5, .int (y5b92 + 1)), (0, .ref (ad 12 0 0)), (1, .int x1), (2, .int x2), (3, .int x3), (4, .int y4b92)]) hx hb dX12_against_92 hl (k := 5) rfl rfl (by decide) rfl (fun ls hl => ?_)
          refine lv_goto (tgt := 6) hx hb dX12_against_95 (by decide) ?_
          cases hf
          exact ih6 y4b92 (y5b92 + 1) H locs ls hG hS (lv_sub hl [1, 2, 3, 4, 5, 0] rfl) hk6
        have KJ89_6 : ∀ (y4b89 : Int32) (y5b89 : Int32)   (H : Heap) (locs : List Loc) (ls : Array Slot), zG D aC A nl ad σ s H → va_S A s.heap H locs → lv_has ls 8 [(0, .ref (ad 12 0 0)), (1, .int x1), (2, .int x2), (3, .int x3), (4, .int y4b89), (5, .int y5b89)] → (f_X12_against_B89_6 σ x1 x2 x3 y4b89 y5b89) = some rr6 → zWk p l e ({ frames := 3, cells := 0, slots := 0, locals := 70 } : Room) s m args below meth c A (some (.int r)) (fun t => zG D aC A nl ad σ t t.heap ∧ True) H locs (F0 m 89 ls []) := by
          intro y4b89 y5b89   H locs ls hG hS hl hf
          unfold f_X12_against_B89_6 at hf
          refine lv_iinc (v := (y4b89 + (-1))) (lv' := [(4, .int (y4b89 + (-1))), (0, .ref (ad 12 0 0)), (1, .int x1), (2, .int x2), (3, .int x3), (5, .int y5b89)]) hx hb dX12_against_89 hl (k := 4) rfl rfl (by decide) rfl (fun ls hl => ?_)
          exact KJ92_6 (y4b89 + (-1)) y5b89 H locs ls hG hS (lv_sub hl [1, 2, 3, 4, 0, 5] rfl) hf
        have KJ70_6 : ∀ (y4b70 : Int32) (y5b70 : Int32) (y6b70 : Int32) (y7b70 : Int32)   (H : Heap) (locs : List Loc) (ls : Array Slot), zG D aC A nl ad σ s H → va_S A s.heap H locs → lv_has ls 8 [(0, .ref (ad 12 0 0)), (1, .int x1), (2, .int x2), (3, .int x3), (4, .int y4b70), (5, .int y5b70), (6, .int y6b70), (7, .int y7b70)] → (f_X12_against_B70_6 σ x1 x2 x3 y4b70 y5b70 y6b70 y7b70) = some rr6 → zWk p l e ({ frames := 3, cells := 0, slots := 0, locals := 70 } : Room) s m args below meth c A (some (.int r)) (fun t => zG D aC A nl ad σ t t.heap ∧ True) H locs (F0 m 70 ls []) := by
          intro y4b70 y5b70 y6b70 y7b70   H locs ls hG hS hl hf
          unfold f_X12_against_B70_6 at hf
          refine lv_iload hx hb dX12_against_70 (lv_at hl 7 rfl) ?_
          refine lv_iconst (v := (-1)) hx hb dX12_against_72 (by decide) ?_
          refine lv_icmp_eq (tgt := 92) hx hb dX12_against_73 (by decide) (fun c26 => ?_) (fun c26 => ?_)
          · have hf := zif_p c26 hf
            exact KJ92_6 y4b70 y5b70 H locs ls hG hS (lv_sub hl [0, 1, 2, 3, 4, 5] rfl) hf
          · have hf := zif_n c26 hf
            refine lv_iload hx hb dX12_against_76 (lv_at hl 6 rfl) ?_
            refine lv_iconst (v := (-1)) hx hb dX12_against_78 (by decide) ?_
            refine lv_icmp_eq (tgt := 89) hx hb dX12_against_79 (by decide) (fun c27 => ?_) (fun c27 => ?_)
            · have hf := zif_p c27 hf
              exact KJ89_6 y4b70 y5b70 H locs ls hG hS (lv_sub hl [0, 1, 2, 3, 4, 5] rfl) hf
            · have hf := zif_n c27 hf
              refine lv_iload hx hb dX12_against_82 (lv_at hl 7 rfl) ?_
              refine lv_iload hx hb dX12_against_84 (lv_at hl 6 rfl) ?_
              refine lv_icmp_ge (tgt := 92) hx hb dX12_against_86 (by decide) (fun c28 => ?_) (fun c28 => ?_)
              · have hf := zif_p c28 hf
                exact KJ92_6 y4b70 y5b70 H locs ls hG hS (lv_sub hl [0, 1, 2, 3, 4, 5] rfl) hf
              · have hf := zif_n c28 hf
                exact KJ89_6 y4b70 y5b70 H locs ls hG hS (lv_sub hl [0, 1, 2, 3, 4, 5] rfl) hf
        have KJ67_6 : ∀ (y4b67 : Int32) (y5b67 : Int32) (y6b67 : Int32) (y7b67 : Int32)   (H : Heap) (locs : List Loc) (ls : Array Slot), zG D aC A nl ad σ s H → va_S A s.heap H locs → lv_has ls 8 [(0, .ref (ad 12 0 0)), (1, .int x1), (2, .int x2), (3, .int x3), (4, .int y4b67), (5, .int y5b67), (6, .int y6b67), (7, .int y7b67)] → (f_X12_against_B67_6 σ x1 x2 x3 y4b67 y5b67 y6b67 y7b67) = some rr6 → zWk p l e ({ frames := 3, cells := 0, slots := 0, locals := 70 } : Room) s m args below meth c A (some (.int r)) (fun t => zG D aC A nl ad σ t t.heap ∧ True) H locs (F0 m 67 ls []) := by
          intro y4b67 y5b67 y6b67 y7b67   H locs ls hG hS hl hf
          unfold f_X12_against_B67_6 at hf
          refine lv_iinc (v := (y4b67 + 1)) (lv' := [(4, .int (y4b67 + 1)), (0, .ref (ad 12 0 0)), (1, .int x1), (2, .int x2), (3, .int x3), (5, .int y5b67), (6, .int y6b67), (7, .int y7b67)]) hx hb dX12_against_67 hl (k := 4) rfl rfl (by decide) rfl (fun ls hl => ?_)
          exact KJ70_6 (y4b67 + 1) y5b67 y6b67 y7b67 H locs ls hG hS (lv_sub hl [1, 2, 3, 4, 0, 5, 6, 7] rfl) hf
        refine lv_iload hx hb dX12_against_6 (lv_at hl 5 rfl) ?_
        refine lv_aload_n hx hb dX12_against_8 rfl (lv_at hl 0 rfl) ?_
        refine z_get (c0 := 12) (i0 := 0) (k0 := 48) (T := TX12) (v := .int (zI σ 12 0 48)) S hG (hZ.2.1 (12, 0) (by decide)) rfl inlX12 (by decide) rfl zw_1202 rfl dX12_against_9 ?_
        refine lv_icmp_ge (tgt := 98) hx hb dX12_against_12 (by decide) (fun c17 => ?_) (fun c17 => ?_)
        · have hf := zif_p c17 hf
          cases hf
          have hk6 : (y4l6 : Int32) = t6 := hk6
          have hf := hfo6
          rw [← hk6] at hf
          have hf : (f_X12_against_B98 σ x1 x2 x3 y4l6) = some r := hf
          exact KJ98 y4l6 H locs ls hG hS (lv_sub hl [0, 1, 2, 3, 4] rfl) hf
        · have hf := zif_n c17 hf
          refine lv_aload_n hx hb dX12_against_15 rfl (lv_at hl 0 rfl) ?_
          refine lv_iload_n hx hb dX12_against_16 rfl (lv_at hl 1 rfl) ?_
          refine lv_iload hx hb dX12_against_17 (lv_at hl 5 rfl) ?_
          obtain ⟨r18, er18, hf⟩ := zbi hf
          refine z_callV (n := 2) (rest := []) (st1 := [.int r18]) (c0 := 12) (i0 := 0) (hZ.2.1 (12, 0) (by decide)) (by rfl) S hG hS hZ (fun _ _ h => h) (c_X12_counts l D aC zs A nl ad σ x1 y5l6 r18 er18) zw_1370 zw_1371 zw_1372 zw_5 zw_1373 (by decide +kernel) ⟨rfl, rfl⟩ ⟨(Nat.le_of_ble_eq_true rfl), (Nat.le_of_ble_eq_true rfl)⟩ hl.1 rfl (by rfl) (by rfl) (Nat.le_of_ble_eq_true rfl) dX12_against_19 ⟨Nat.zero_le _, Nat.zero_le _⟩ (fun H locs hz19 hG hS => ?_)
          refine lv_if_ne (tgt := 28) hx hb dX12_against_22 (by decide) (fun c20 => ?_) (fun c20 => ?_)
          · have hf := zif_n c20 hf
            refine lv_aload_n hx hb dX12_against_28 rfl (lv_at hl 0 rfl) ?_
            refine lv_iload_n hx hb dX12_against_29 rfl (lv_at hl 1 rfl) ?_
            refine lv_iload hx hb dX12_against_30 (lv_at hl 5 rfl) ?_
            refine lv_iload_n hx hb dX12_against_32 rfl (lv_at hl 2 rfl) ?_
            obtain ⟨r21, er21, hf⟩ := zbi hf
            refine z_callV (n := 3) (rest := []) (st1 := [.int r21]) (c0 := 12) (i0 := 0) (hZ.2.1 (12, 0) (by decide)) (by rfl) S hG hS hZ (fun _ _ h => h) (c_X12_placeIn l D aC zs A nl ad σ x1 y5l6 x2 r21 er21) zw_1374 zw_1375 zw_1376 zw_5 zw_1377 (by decide +kernel) ⟨rfl, rfl⟩ ⟨(Nat.le_of_ble_eq_true rfl), (Nat.le_of_ble_eq_true rfl)⟩ hl.1 rfl (by rfl) (by rfl) (Nat.le_of_ble_eq_true rfl) dX12_against_33 ⟨Nat.zero_le _, Nat.zero_le _⟩ (fun H locs hz22 hG hS => ?_)
            refine lv_istore (lv' := [(6, .int r21), (0, .ref (ad 12 0 0)), (1, .int x1), (2, .int x2), (3, .int x3), (4, .int y4l6), (5, .int y5l6)]) hx hb dX12_against_36 hl (by decide) rfl (fun ls hl => ?_)
            refine lv_aload_n hx hb dX12_against_38 rfl (lv_at hl 1 rfl) ?_
            refine lv_iload_n hx hb dX12_against_39 rfl (lv_at hl 2 rfl) ?_
            refine lv_iload hx hb dX12_against_40 (lv_at hl 6 rfl) ?_
            refine lv_iload_n hx hb dX12_against_42 rfl (lv_at hl 4 rfl) ?_
            obtain ⟨r23, er23, hf⟩ := zbi hf
            refine z_callV (n := 3) (rest := []) (st1 := [.int r23]) (c0 := 12) (i0 := 0) (hZ.2.1 (12, 0) (by decide)) (by rfl) S hG hS hZ (fun _ _ h => h) (c_X12_placeIn l D aC zs A nl ad σ x1 y5l6 x3 r23 er23) zw_1374 zw_1375 zw_1376 zw_5 zw_1377 (by decide +kernel) ⟨rfl, rfl⟩ ⟨(Nat.le_of_ble_eq_true rfl), (Nat.le_of_ble_eq_true rfl)⟩ hl.1 rfl (by rfl) (by rfl) (Nat.le_of_ble_eq_true rfl) dX12_against_43 ⟨Nat.zero_le _, Nat.zero_le _⟩ (fun H locs hz24 hG hS => ?_)
            refine lv_istore (lv' := [(7, .int r23), (6, .int r21), (0, .ref (ad 12 0 0)), (1, .int x1), (2, .int x2), (3, .int x3), (4, .int y4l6), (5, .int y5l6)]) hx hb dX12_against_46 hl (by decide) rfl (fun ls hl => ?_)
            refine lv_iload hx hb dX12_against_48 (lv_at hl 1 rfl) ?_
            refine lv_iconst (v := (-1)) hx hb dX12_against_50 (by decide) ?_
            refine lv_icmp_eq (tgt := 70) hx hb dX12_against_51 (by decide) (fun c25 => ?_) (fun c25 => ?_)
            · have hf := zif_p c25 hf
              exact KJ70_6 y4l6 y5l6 r21 r23 H locs ls hG hS (lv_sub hl [2, 3, 4, 5, 6, 7, 1, 0] rfl) hf
            · have hf := zif_n c25 hf
              refine lv_iload hx hb dX12_against_54 (lv_at hl 0 rfl) ?_
              refine lv_iconst (v := (-1)) hx hb dX12_against_56 (by decide) ?_
              refine lv_icmp_eq (tgt := 67) hx hb dX12_against_57 (by decide) (fun c29 => ?_) (fun c29 => ?_)
              · have hf := zif_p c29 hf
                exact KJ67_6 y4l6 y5l6 r21 r23 H locs ls hG hS (lv_sub hl [2, 3, 4, 5, 6, 7, 1, 0] rfl) hf
              · have hf := zif_n c29 hf
                refine lv_iload hx hb dX12_against_60 (lv_at hl 1 rfl) ?_
                refine lv_iload hx hb dX12_against_62 (lv_at hl 0 rfl) ?_
                refine lv_icmp_ge (tgt := 70) hx hb dX12_against_64 (by decide) (fun c30 => ?_) (fun c30 => ?_)
                · have hf := zif_p c30 hf
                  exact KJ70_6 y4l6 y5l6 r21 r23 H locs ls hG hS (lv_sub hl [2, 3, 4, 5, 6, 7, 1, 0] rfl) hf
                · have hf := zif_n c30 hf
                  exact KJ67_6 y4l6 y5l6 r21 r23 H locs ls hG hS (lv_sub hl [2, 3, 4, 5, 6, 7, 1, 0] rfl) hf
          · have hf := zif_p c20 hf
            refine lv_goto (tgt := 92) hx hb dX12_against_25 (by decide) ?_
            exact KJ92_6 y4l6 y5l6 H locs ls hG hS (lv_sub hl [0, 1, 2, 3, 4, 5] rfl) hf
    exact KL6 zFu 0 0 H locs ls hG hS (lv_sub hl [2, 3, 4, 5, 1, 0] rfl) hw6
  exact hK0 _ _ ls hG hS hl hf
set_option maxRecDepth 100000 in
set_option maxHeartbeats 4000000 in
theorem c_X12_pointsOf (l : Launch) (D : va_G) (aC : Nat → ClassId) (zs : Nat × Nat) (A : Nat → Prop) (nl : zNL) (ad : Nat → Nat → Nat → Nat) (σ : zM) (x1 : Int32) (x2 : Int32) (x3 : Int32) (r : Int32)  (hf : f_X12_pointsOf σ x1 x2 x3 = some r) : Met l yX12_pointsOf (Cond.code yX12_pointsOf cX12_pointsOf 7 (some .int) :: wsL_law) ({ frames := 4, cells := 0, slots := 0, locals := 97 } : Room) (zP D aC zs zfM A nl ad σ [.ref (ad 12 0 0), .int x1, .int x2, .int x3]) (zQ (some (.int r)) (fun t => zG D aC A nl ad σ t t.heap ∧ True) A) 0 0 A := by
  refine Met.ofW (cc := cX12_pointsOf) (maxL := 7) (ret := (some .int)) (by decide) rfl ?_
  intro p e s m args below meth c s₁ B hml hv
  obtain ⟨rfl, hG, hZ⟩ := hv
  have hx := B.exec
  have hb := B.bytes
  have hr := B.returns
  have hts : ∀ w ∈ wsL_law, w.before ([.ref (ad 12 0 0), .int x1, .int x2, .int x3] : List Value).toArray s = true := fun w h => (atoms_spec B.pre) w (List.mem_cons_of_mem _ h)
  have hown : s.vm.findClass RX12 = some m.cls := findClass_of_methodNamed B.named
  have hlocks := B.notSynchronized
  have S : zS p m c cX12_pointsOf 7 s ([.ref (ad 12 0 0), .int x1, .int x2, .int x3] : List Value).toArray RX12 := ⟨hx, hb, hml, hown, hts⟩
  have hS : va_S A s.heap s.heap [] := va_S.rf
  have hl := lv_entry ([.ref (ad 12 0 0), .int x1, .int x2, .int x3]) (n := 7) (Nat.le_of_ble_eq_true rfl)
  rw [lg_entry_eq]
  generalize (lg_sl ([.ref (ad 12 0 0), .int x1, .int x2, .int x3]) ++ List.replicate (7 - (lg_sl ([.ref (ad 12 0 0), .int x1, .int x2, .int x3])).length) Slot.unset).toArray = ls at hl ⊢
  have hl : lv_has ls 7 [(0, .ref (ad 12 0 0)), (1, .int x1), (2, .int x2), (3, .int x3)] := hl
  generalize hargs : ([.ref (ad 12 0 0), .int x1, .int x2, .int x3] : List Value).toArray = args at S hts ⊢
  clear hargs
  have KJ93 : ∀ (y4b93 : Int32)   (H : Heap) (locs : List Loc) (ls : Array Slot), zG D aC A nl ad σ s H → va_S A s.heap H locs → lv_has ls 7 [(0, .ref (ad 12 0 0)), (1, .int x1), (2, .int x2), (3, .int x3), (4, .int y4b93)] → (f_X12_pointsOf_B93 σ x1 x2 x3 y4b93) = some r → zWk p l e ({ frames := 4, cells := 0, slots := 0, locals := 97 } : Room) s m args below meth c A (some (.int r)) (fun t => zG D aC A nl ad σ t t.heap ∧ True) H locs (F0 m 93 ls []) := by
    intro y4b93   H locs ls hG hS hl hf
    unfold f_X12_pointsOf_B93 at hf
    refine lv_iconst (v := 0) hx hb dX12_pointsOf_93 (by decide) ?_
    refine lv_istore (lv' := [(5, .int 0), (0, .ref (ad 12 0 0)), (1, .int x1), (2, .int x2), (3, .int x3), (4, .int y4b93)]) hx hb dX12_pointsOf_94 hl (by decide) rfl (fun ls hl => ?_)
    obtain ⟨t96, hw96, hfo96⟩ := zbi hf
    have KL96 : ∀ (n : Nat) (y4l96 : Int32) (y5l96 : Int32) (H : Heap) (locs : List Loc) (ls : Array Slot), zG D aC A nl ad σ s H → va_S A s.heap H locs → lv_has ls 7 [(0, .ref (ad 12 0 0)), (1, .int x1), (2, .int x2), (3, .int x3), (4, .int y4l96), (5, .int y5l96)] → zwh (fun (q : (Int32 × Int32)) => f_X12_pointsOf_L96 σ x1 x2 x3 q.1 q.2) n (y4l96, y5l96) = some t96 → zWk p l e ({ frames := 4, cells := 0, slots := 0, locals := 97 } : Room) s m args below meth c A (some (.int r)) (fun t => zG D aC A nl ad σ t t.heap ∧ True) H locs (F0 m 96 ls []) := by
      intro n
      induction n with
      | zero =>
        intro y4l96 y5l96 H locs ls hG hS hl hw
        exact (zwh_0 hw).elim
      | succ n ih96 =>
        intro y4l96 y5l96 H locs ls hG hS hl hw
        obtain ⟨rr96, hf, hk96⟩ := zwh_u hw
        have hf : f_X12_pointsOf_L96 σ x1 x2 x3 y4l96 y5l96 = some rr96 := hf
        unfold f_X12_pointsOf_L96 at hf
        have KJ139_96 : ∀ (y4b139 : Int32) (y5b139 : Int32)   (H : Heap) (locs : List Loc) (ls : Array Slot), zG D aC A nl ad σ s H → va_S A s.heap H locs → lv_has ls 7 [(0, .ref (ad 12 0 0)), (1, .int x1), (2, .int x2), (3, .int x3), (4, .int y4b139), (5, .int y5b139)] → (f_X12_pointsOf_B139_96 σ x1 x2 x3 y4b139 y5b139) = some rr96 → zWk p l e ({ frames := 4, cells := 0, slots := 0, locals := 97 } : Room) s m args below meth c A (some (.int r)) (fun t => zG D aC A nl ad σ t t.heap ∧ True) H locs (F0 m 139 ls []) := by
          intro y4b139 y5b139   H locs ls hG hS hl hf
          unfold f_X12_pointsOf_B139_96 at hf
          refine lv_iinc (v := (y5b139 + 1)) (lv' := [(5, .int (y5b139 + 1)), (0, .ref (ad 12 0 0)), (1, .int x1), (2, .int x2), (3, .int x3), (4, .int y4b139)]) hx hb dX12_pointsOf_139 hl (k := 5) rfl rfl (by decide) rfl (fun ls hl => ?_)
          refine lv_goto (tgt := 96) hx hb dX12_pointsOf_142 (by decide) ?_
          cases hf
          exact ih96 y4b139 (y5b139 + 1) H locs ls hG hS (lv_sub hl [1, 2, 3, 4, 5, 0] rfl) hk96
        refine lv_iload hx hb dX12_pointsOf_96 (lv_at hl 5 rfl) ?_
        refine lv_aload_n hx hb dX12_pointsOf_98 rfl (lv_at hl 0 rfl) ?_
        refine z_get (c0 := 12) (i0 := 0) (k0 := 1) (T := TX12) (v := .int (zI σ 12 0 1)) S hG (hZ.2.1 (12, 0) (by decide)) rfl inlX12 (by decide) rfl zw_801 rfl dX12_pointsOf_99 ?_
        refine lv_icmp_ge (tgt := 145) hx hb dX12_pointsOf_102 (by decide) (fun c10 => ?_) (fun c10 => ?_)
        · have hf := zif_p c10 hf
          cases hf
          have hk96 : (y4l96 : Int32) = t96 := hk96
          have hf := hfo96
          rw [← hk96] at hf
          have hf : (some y4l96) = some r := hf
          refine lv_iload hx hb dX12_pointsOf_145 (lv_at hl 4 rfl) ?_
          have hq := (Option.some.inj hf)
          subst hq
          exact z_iret S hG hS hlocks trivial hr dX12_pointsOf_147
        · have hf := zif_n c10 hf
          refine lv_iload_n hx hb dX12_pointsOf_105 rfl (lv_at hl 2 rfl) ?_
          refine lv_iconst (v := 2) hx hb dX12_pointsOf_106 (by decide) ?_
          refine lv_icmp_ne (tgt := 145) hx hb dX12_pointsOf_107 (by decide) (fun c11 => ?_) (fun c11 => ?_)
          · have hf := zif_n c11 hf
            cases hf
            have hk96 : (y4l96 : Int32) = t96 := hk96
            have hf := hfo96
            rw [← hk96] at hf
            have hf : (some y4l96) = some r := hf
            refine lv_iload hx hb dX12_pointsOf_145 (lv_at hl 4 rfl) ?_
            have hq := (Option.some.inj hf)
            subst hq
            exact z_iret S hG hS hlocks trivial hr dX12_pointsOf_147
          · have hf := zif_p c11 hf
            refine lv_iload hx hb dX12_pointsOf_110 (lv_at hl 5 rfl) ?_
            refine lv_iload_n hx hb dX12_pointsOf_112 rfl (lv_at hl 3 rfl) ?_
            refine lv_icmp_eq (tgt := 139) hx hb dX12_pointsOf_113 (by decide) (fun c12 => ?_) (fun c12 => ?_)
            · have hf := zif_p c12 hf
              exact KJ139_96 y4l96 y5l96 H locs ls hG hS (lv_sub hl [0, 1, 2, 3, 4, 5] rfl) hf
            · have hf := zif_n c12 hf
              refine lv_aload_n hx hb dX12_pointsOf_116 rfl (lv_at hl 0 rfl) ?_
              refine lv_iload_n hx hb dX12_pointsOf_117 rfl (lv_at hl 1 rfl) ?_
              refine lv_iload hx hb dX12_pointsOf_118 (lv_at hl 5 rfl) ?_
              obtain ⟨r13, er13, hf⟩ := zbi hf
              refine z_callV (n := 2) (rest := []) (st1 := [.int r13]) (c0 := 12) (i0 := 0) (hZ.2.1 (12, 0) (by decide)) (by rfl) S hG hS hZ (fun _ _ h => h) (c_X12_isInRound l D aC zs A nl ad σ x1 y5l96 r13 er13) zw_1358 zw_1359 zw_1360 zw_5 zw_1361 (by decide +kernel) ⟨rfl, rfl⟩ ⟨(Nat.le_of_ble_eq_true rfl), (Nat.le_of_ble_eq_true rfl)⟩ hl.1 rfl (by rfl) (by rfl) (Nat.le_of_ble_eq_true rfl) dX12_pointsOf_120 ⟨Nat.zero_le _, Nat.zero_le _⟩ (fun H locs hz14 hG hS => ?_)
              refine lv_if_eq (tgt := 139) hx hb dX12_pointsOf_123 (by decide) (fun c15 => ?_) (fun c15 => ?_)
              · have hf := zif_p c15 hf
                exact KJ139_96 y4l96 y5l96 H locs ls hG hS (lv_sub hl [0, 1, 2, 3, 4, 5] rfl) hf
              · have hf := zif_n c15 hf
                refine lv_iload hx hb dX12_pointsOf_126 (lv_at hl 4 rfl) ?_
                refine lv_aload_n hx hb dX12_pointsOf_128 rfl (lv_at hl 0 rfl) ?_
                refine lv_iload_n hx hb dX12_pointsOf_129 rfl (lv_at hl 1 rfl) ?_
                refine lv_iload_n hx hb dX12_pointsOf_130 rfl (lv_at hl 3 rfl) ?_
                refine lv_iload hx hb dX12_pointsOf_131 (lv_at hl 5 rfl) ?_
                obtain ⟨r16, er16, hf⟩ := zbi hf
                refine z_callV (n := 3) (rest := [.int y4l96]) (st1 := [.int r16, .int y4l96]) (c0 := 12) (i0 := 0) (hZ.2.1 (12, 0) (by decide)) (by rfl) S hG hS hZ (fun _ _ h => h) (c_X12_against l D aC zs A nl ad σ x1 x3 y5l96 r16 er16) zw_1378 zw_1379 zw_1380 zw_5 zw_1381 (by decide +kernel) ⟨rfl, rfl⟩ ⟨(Nat.le_of_ble_eq_true rfl), (Nat.le_of_ble_eq_true rfl)⟩ hl.1 rfl (by rfl) (by rfl) (Nat.le_of_ble_eq_true rfl) dX12_pointsOf_133 ⟨Nat.zero_le _, Nat.zero_le _⟩ (fun H locs hz17 hG hS => ?_)
                refine lv_iadd hx hb dX12_pointsOf_136 ?_
                refine lv_istore (lv' := [(4, .int (y4l96 + r16)), (0, .ref (ad 12 0 0)), (1, .int x1), (2, .int x2), (3, .int x3), (5, .int y5l96)]) hx hb dX12_pointsOf_137 hl (by decide) rfl (fun ls hl => ?_)
                exact KJ139_96 (y4l96 + r16) y5l96 H locs ls hG hS (lv_sub hl [1, 2, 3, 4, 0, 5] rfl) hf
    exact KL96 zFu y4b93 0 H locs ls hG hS (lv_sub hl [1, 2, 3, 4, 5, 0] rfl) hw96
  have hK0 : ∀ (H : Heap) (locs : List Loc) (ls : Array Slot), zG D aC A nl ad σ s H → va_S A s.heap H locs → lv_has ls 7 [(0, .ref (ad 12 0 0)), (1, .int x1), (2, .int x2), (3, .int x3)] → f_X12_pointsOf σ x1 x2 x3 = some r → zWk p l e ({ frames := 4, cells := 0, slots := 0, locals := 97 } : Room) s m args below meth c A (some (.int r)) (fun t => zG D aC A nl ad σ t t.heap ∧ True) H locs (F0 m 0 ls []) := by
    intro H locs ls hG hS hl hf
    unfold f_X12_pointsOf at hf
    refine lv_iconst (v := 0) hx hb dX12_pointsOf_0 (by decide) ?_
    refine lv_istore (lv' := [(4, .int 0), (0, .ref (ad 12 0 0)), (1, .int x1), (2, .int x2), (3, .int x3)]) hx hb dX12_pointsOf_1 hl (by decide) rfl (fun ls hl => ?_)
    refine lv_iconst (v := 0) hx hb dX12_pointsOf_3 (by decide) ?_
    refine lv_istore (lv' := [(5, .int 0), (4, .int 0), (0, .ref (ad 12 0 0)), (1, .int x1), (2, .int x2), (3, .int x3)]) hx hb dX12_pointsOf_4 hl (by decide) rfl (fun ls hl => ?_)
    obtain ⟨t6, hw6, hfo6⟩ := zbi hf
    have KL6 : ∀ (n : Nat) (y4l6 : Int32) (y5l6 : Int32) (H : Heap) (locs : List Loc) (ls : Array Slot), zG D aC A nl ad σ s H → va_S A s.heap H locs → lv_has ls 7 [(0, .ref (ad 12 0 0)), (1, .int x1), (2, .int x2), (3, .int x3), (4, .int y4l6), (5, .int y5l6)] → zwh (fun (q : (Int32 × Int32)) => f_X12_pointsOf_L6 σ x1 x2 x3 q.1 q.2) n (y4l6, y5l6) = some t6 → zWk p l e ({ frames := 4, cells := 0, slots := 0, locals := 97 } : Room) s m args below meth c A (some (.int r)) (fun t => zG D aC A nl ad σ t t.heap ∧ True) H locs (F0 m 6 ls []) := by
      intro n
      induction n with
      | zero =>
        intro y4l6 y5l6 H locs ls hG hS hl hw
        exact (zwh_0 hw).elim
      | succ n ih6 =>
        intro y4l6 y5l6 H locs ls hG hS hl hw
        obtain ⟨rr6, hf, hk6⟩ := zwh_u hw
        have hf : f_X12_pointsOf_L6 σ x1 x2 x3 y4l6 y5l6 = some rr6 := hf
        unfold f_X12_pointsOf_L6 at hf
        have KJ87_6 : ∀ (y4b87 : Int32) (y5b87 : Int32)   (H : Heap) (locs : List Loc) (ls : Array Slot), zG D aC A nl ad σ s H → va_S A s.heap H locs → lv_has ls 7 [(0, .ref (ad 12 0 0)), (1, .int x1), (2, .int x2), (3, .int x3), (4, .int y4b87), (5, .int y5b87)] → (f_X12_pointsOf_B87_6 σ x1 x2 x3 y4b87 y5b87) = some rr6 → zWk p l e ({ frames := 4, cells := 0, slots := 0, locals := 97 } : Room) s m args below meth c A (some (.int r)) (fun t => zG D aC A nl ad σ t t.heap ∧ True) H locs (F0 m 87 ls []) := by
          intro y4b87 y5b87   H locs ls hG hS hl hf
          unfold f_X12_pointsOf_B87_6 at hf
          refine lv_iinc (v := (y5b87 + 1)) (lv' := [(5, .int (y5b87 + 1)), (0, .ref (ad 12 0 0)), (1, .int x1), (2, .int x2), (3, .int x3), (4, .int y4b87)]) hx hb dX12_pointsOf_87 hl (k := 5) rfl rfl (by decide) rfl (fun ls hl => ?_)
          refine lv_goto (tgt := 6) hx hb dX12_pointsOf_90 (by decide) ?_
          cases hf
          exact ih6 y4b87 (y5b87 + 1) H locs ls hG hS (lv_sub hl [1, 2, 3, 4, 5, 0] rfl) hk6
        have KJ84_6 : ∀ (y5b84 : Int32) (t0b84 : Int32) (t1b84 : Int32)   (H : Heap) (locs : List Loc) (ls : Array Slot), zG D aC A nl ad σ s H → va_S A s.heap H locs → lv_has ls 7 [(0, .ref (ad 12 0 0)), (1, .int x1), (2, .int x2), (3, .int x3), (5, .int y5b84)] → (f_X12_pointsOf_B84_6 σ x1 x2 x3 y5b84 t0b84 t1b84) = some rr6 → zWk p l e ({ frames := 4, cells := 0, slots := 0, locals := 97 } : Room) s m args below meth c A (some (.int r)) (fun t => zG D aC A nl ad σ t t.heap ∧ True) H locs (F0 m 84 ls [.int t1b84, .int t0b84]) := by
          intro y5b84 t0b84 t1b84   H locs ls hG hS hl hf
          unfold f_X12_pointsOf_B84_6 at hf
          refine lv_iadd hx hb dX12_pointsOf_84 ?_
          refine lv_istore (lv' := [(4, .int (t0b84 + t1b84)), (0, .ref (ad 12 0 0)), (1, .int x1), (2, .int x2), (3, .int x3), (5, .int y5b84)]) hx hb dX12_pointsOf_85 hl (by decide) rfl (fun ls hl => ?_)
          exact KJ87_6 (t0b84 + t1b84) y5b84 H locs ls hG hS (lv_sub hl [1, 2, 3, 4, 0, 5] rfl) hf
        have KJ42_6 : ∀ (y4b42 : Int32) (y5b42 : Int32) (t0b42 : Int32)   (H : Heap) (locs : List Loc) (ls : Array Slot), zG D aC A nl ad σ s H → va_S A s.heap H locs → lv_has ls 7 [(0, .ref (ad 12 0 0)), (1, .int x1), (2, .int x2), (3, .int x3), (4, .int y4b42), (5, .int y5b42)] → (f_X12_pointsOf_B42_6 σ x1 x2 x3 y4b42 y5b42 t0b42) = some rr6 → zWk p l e ({ frames := 4, cells := 0, slots := 0, locals := 97 } : Room) s m args below meth c A (some (.int r)) (fun t => zG D aC A nl ad σ t t.heap ∧ True) H locs (F0 m 42 ls [.int t0b42]) := by
          intro y4b42 y5b42 t0b42   H locs ls hG hS hl hf
          unfold f_X12_pointsOf_B42_6 at hf
          refine lv_istore (lv' := [(6, .int t0b42), (0, .ref (ad 12 0 0)), (1, .int x1), (2, .int x2), (3, .int x3), (4, .int y4b42), (5, .int y5b42)]) hx hb dX12_pointsOf_42 hl (by decide) rfl (fun ls hl => ?_)
          refine lv_iload hx hb dX12_pointsOf_44 (lv_at hl 0 rfl) ?_
          refine lv_iconst (v := (-1)) hx hb dX12_pointsOf_46 (by decide) ?_
          refine lv_icmp_eq (tgt := 87) hx hb dX12_pointsOf_47 (by decide) (fun c39 => ?_) (fun c39 => ?_)
          · have hf := zif_p c39 hf
            exact KJ87_6 y4b42 y5b42 H locs ls hG hS (lv_sub hl [1, 2, 3, 4, 5, 6] rfl) hf
          · have hf := zif_n c39 hf
            refine lv_iload hx hb dX12_pointsOf_50 (lv_at hl 5 rfl) ?_
            refine lv_iload_n hx hb dX12_pointsOf_52 rfl (lv_at hl 3 rfl) ?_
            refine lv_if_ne (tgt := 72) hx hb dX12_pointsOf_53 (by decide) (fun c40 => ?_) (fun c40 => ?_)
            · have hf := zif_n c40 hf
              refine lv_aload_n hx hb dX12_pointsOf_72 rfl (lv_at hl 1 rfl) ?_
              refine z_get (c0 := 12) (i0 := 0) (k0 := 58) (T := TX12) (v := .ref (ad 12 0 59)) S hG (hZ.2.1 (12, 0) (by decide)) rfl inlX12 (by decide) rfl zw_260 rfl dX12_pointsOf_73 ?_
              refine lv_iload_n hx hb dX12_pointsOf_76 rfl (lv_at hl 2 rfl) ?_
              obtain ⟨i41, hi41, hf⟩ := zbi hf
              refine z_iald (c0 := 12) (i0 := 0) (k0 := 58) S hG (hZ.2.1 (12, 0) (by decide)) (by decide) rfl hi41 dX12_pointsOf_77 ?_
              obtain ⟨r42, er42, hf⟩ := zbi hf
              refine z_callS (n := 1) (rest := [.int y4b42]) (st1 := [.int r42, .int y4b42]) S hG hS hZ (fun _ _ h => h) (c_X12_bits l D aC zs A nl ad σ (zA σ 12 0 58 i41) r42 er42) zw_1296 zw_1297 zw_5 zw_1298 (by decide +kernel) ⟨rfl, rfl⟩ ⟨(Nat.le_of_ble_eq_true rfl), (Nat.le_of_ble_eq_true rfl)⟩ hl.1 rfl (by rfl) (by rfl) (Nat.le_of_ble_eq_true rfl) dX12_pointsOf_78 ⟨Nat.zero_le _, Nat.zero_le _⟩ (fun H locs hz43 hG hS => ?_)
              refine lv_iload hx hb dX12_pointsOf_81 (lv_at hl 0 rfl) ?_
              refine lv_isub hx hb dX12_pointsOf_83 ?_
              exact KJ84_6 y5b42 y4b42 (r42 - t0b42) H locs ls hG hS (lv_sub hl [1, 2, 3, 4, 6] rfl) hf
            · have hf := zif_p c40 hf
              refine lv_iload hx hb dX12_pointsOf_56 (lv_at hl 0 rfl) ?_
              have Kv46 : ∀ (v46 : Int32) (ls : Array Slot), lv_has ls 7 [(6, .int t0b42), (0, .ref (ad 12 0 0)), (1, .int x1), (2, .int x2), (3, .int x3), (4, .int y4b42), (5, .int y5b42)] → (f_X12_pointsOf_B84_6 σ x1 x2 x3 y5b42 y4b42 (f_X12_one v46)) = some rr6 → zWk p l e ({ frames := 4, cells := 0, slots := 0, locals := 97 } : Room) s m args below meth c A (some (.int r)) (fun t => zG D aC A nl ad σ t t.heap ∧ True) H locs (F0 m 66 ls [.int v46, .int y4b42]) := by
                intro v46 ls hl hf
                refine z_callS (n := 1) (rest := [.int y4b42]) (st1 := [.int (f_X12_one v46), .int y4b42]) S hG hS hZ (fun _ _ h => h) (c_X12_one l D aC zs A nl ad σ v46 (f_X12_one v46) rfl) zw_903 zw_904 zw_5 zw_905 (by decide +kernel) ⟨rfl, rfl⟩ ⟨(Nat.le_of_ble_eq_true rfl), (Nat.le_of_ble_eq_true rfl)⟩ hl.1 rfl (by rfl) (by rfl) (Nat.le_of_ble_eq_true rfl) dX12_pointsOf_66 ⟨Nat.zero_le _, Nat.zero_le _⟩ (fun H locs hz48 hG hS => ?_)
                refine lv_goto (tgt := 84) hx hb dX12_pointsOf_69 (by decide) ?_
                exact KJ84_6 y5b42 y4b42 (f_X12_one v46) H locs ls hG hS (lv_sub hl [1, 2, 3, 4, 6] rfl) hf
              refine lv_if_ne (tgt := 65) hx hb dX12_pointsOf_58 (by decide) (fun c45 => ?_) (fun c45 => ?_)
              · rw [if_neg c45] at hf
                refine lv_iconst (v := 0) hx hb dX12_pointsOf_65 (by decide) ?_
                exact Kv46 _ ls hl hf
              · rw [if_pos c45] at hf
                refine lv_iconst (v := 1) hx hb dX12_pointsOf_61 (by decide) ?_
                refine lv_goto (tgt := 66) hx hb dX12_pointsOf_62 (by decide) ?_
                exact Kv46 _ ls hl hf
        refine lv_iload hx hb dX12_pointsOf_6 (lv_at hl 5 rfl) ?_
        refine lv_aload_n hx hb dX12_pointsOf_8 rfl (lv_at hl 0 rfl) ?_
        refine z_get (c0 := 12) (i0 := 0) (k0 := 48) (T := TX12) (v := .int (zI σ 12 0 48)) S hG (hZ.2.1 (12, 0) (by decide)) rfl inlX12 (by decide) rfl zw_1202 rfl dX12_pointsOf_9 ?_
        refine lv_icmp_ge (tgt := 93) hx hb dX12_pointsOf_12 (by decide) (fun c34 => ?_) (fun c34 => ?_)
        · have hf := zif_p c34 hf
          cases hf
          have hk6 : (y4l6 : Int32) = t6 := hk6
          have hf := hfo6
          rw [← hk6] at hf
          have hf : (f_X12_pointsOf_B93 σ x1 x2 x3 y4l6) = some r := hf
          exact KJ93 y4l6 H locs ls hG hS (lv_sub hl [0, 1, 2, 3, 4] rfl) hf
        · have hf := zif_n c34 hf
          refine lv_iload_n hx hb dX12_pointsOf_15 rfl (lv_at hl 2 rfl) ?_
          refine lv_iconst (v := 2) hx hb dX12_pointsOf_16 (by decide) ?_
          refine lv_icmp_ge (tgt := 93) hx hb dX12_pointsOf_17 (by decide) (fun c35 => ?_) (fun c35 => ?_)
          · have hf := zif_p c35 hf
            cases hf
            have hk6 : (y4l6 : Int32) = t6 := hk6
            have hf := hfo6
            rw [← hk6] at hf
            have hf : (f_X12_pointsOf_B93 σ x1 x2 x3 y4l6) = some r := hf
            exact KJ93 y4l6 H locs ls hG hS (lv_sub hl [0, 1, 2, 3, 4] rfl) hf
          · have hf := zif_n c35 hf
            refine lv_aload_n hx hb dX12_pointsOf_20 rfl (lv_at hl 0 rfl) ?_
            refine lv_iload_n hx hb dX12_pointsOf_21 rfl (lv_at hl 1 rfl) ?_
            refine lv_iload hx hb dX12_pointsOf_22 (lv_at hl 5 rfl) ?_
            obtain ⟨r36, er36, hf⟩ := zbi hf
            refine z_callV (n := 2) (rest := []) (st1 := [.int r36]) (c0 := 12) (i0 := 0) (hZ.2.1 (12, 0) (by decide)) (by rfl) S hG hS hZ (fun _ _ h => h) (c_X12_counts l D aC zs A nl ad σ x1 y5l6 r36 er36) zw_1370 zw_1371 zw_1372 zw_5 zw_1373 (by decide +kernel) ⟨rfl, rfl⟩ ⟨(Nat.le_of_ble_eq_true rfl), (Nat.le_of_ble_eq_true rfl)⟩ hl.1 rfl (by rfl) (by rfl) (Nat.le_of_ble_eq_true rfl) dX12_pointsOf_24 ⟨Nat.zero_le _, Nat.zero_le _⟩ (fun H locs hz37 hG hS => ?_)
            refine lv_if_eq (tgt := 41) hx hb dX12_pointsOf_27 (by decide) (fun c38 => ?_) (fun c38 => ?_)
            · have hf := zif_p c38 hf
              refine lv_iconst (v := (-1)) hx hb dX12_pointsOf_41 (by decide) ?_
              exact KJ42_6 y4l6 y5l6 (-1) H locs ls hG hS (lv_sub hl [0, 1, 2, 3, 4, 5] rfl) hf
            · have hf := zif_n c38 hf
              refine lv_aload_n hx hb dX12_pointsOf_30 rfl (lv_at hl 0 rfl) ?_
              refine lv_iload_n hx hb dX12_pointsOf_31 rfl (lv_at hl 1 rfl) ?_
              refine lv_iload hx hb dX12_pointsOf_32 (lv_at hl 5 rfl) ?_
              refine lv_iload_n hx hb dX12_pointsOf_34 rfl (lv_at hl 3 rfl) ?_
              obtain ⟨r49, er49, hf⟩ := zbi hf
              refine z_callV (n := 3) (rest := []) (st1 := [.int r49]) (c0 := 12) (i0 := 0) (hZ.2.1 (12, 0) (by decide)) (by rfl) S hG hS hZ (fun _ _ h => h) (c_X12_placeIn l D aC zs A nl ad σ x1 y5l6 x3 r49 er49) zw_1374 zw_1375 zw_1376 zw_5 zw_1377 (by decide +kernel) ⟨rfl, rfl⟩ ⟨(Nat.le_of_ble_eq_true rfl), (Nat.le_of_ble_eq_true rfl)⟩ hl.1 rfl (by rfl) (by rfl) (Nat.le_of_ble_eq_true rfl) dX12_pointsOf_35 ⟨Nat.zero_le _, Nat.zero_le _⟩ (fun H locs hz50 hG hS => ?_)
              refine lv_goto (tgt := 42) hx hb dX12_pointsOf_38 (by decide) ?_
              exact KJ42_6 y4l6 y5l6 r49 H locs ls hG hS (lv_sub hl [0, 1, 2, 3, 4, 5] rfl) hf
    exact KL6 zFu 0 0 H locs ls hG hS (lv_sub hl [2, 3, 4, 5, 1, 0] rfl) hw6
  exact hK0 _ _ ls hG hS hl hf
