set_option maxRecDepth 100000 in
set_option maxHeartbeats 4000000 in
theorem c_X12_isStep (l : Launch) (D : va_G) (aC : Nat → ClassId) (zs : Nat × Nat) (A : Nat → Prop) (nl : zNL) (ad : Nat → Nat → Nat → Nat) (σ : zM) (x1 : Int32) (x2 : Int32) (x3 : Int32) (r : Int32)  (hf : f_X12_isStep σ x1 x2 x3 = some r) : Met l yX12_isStep (Cond.code yX12_isStep cX12_isStep 6 (some .boolean) :: wsL_law) ({ frames := 1, cells := 0, slots := 0, locals := 22 } : Room) (zP D aC zs zfM A nl ad σ [.ref (ad 12 0 0), .int x1, .int x2, .int x3]) (zQ (some (.int r)) (fun t => zG D aC A nl ad σ t t.heap ∧ (r = 0 ∨ r = 1)) A) 0 0 A := by
  refine Met.ofW (cc := cX12_isStep) (maxL := 6) (ret := (some .boolean)) (by decide) rfl ?_
  intro p e s m args below meth c s₁ B hml hv
  obtain ⟨rfl, hG, hZ⟩ := hv
  have hx := B.exec
  have hb := B.bytes
  have hr := B.returns
  have hts : ∀ w ∈ wsL_law, w.before ([.ref (ad 12 0 0), .int x1, .int x2, .int x3] : List Value).toArray s = true := fun w h => (atoms_spec B.pre) w (List.mem_cons_of_mem _ h)
  have hown : s.vm.findClass RX12 = some m.cls := findClass_of_methodNamed B.named
  have hlocks := B.notSynchronized
  have S : zS p m c cX12_isStep 6 s ([.ref (ad 12 0 0), .int x1, .int x2, .int x3] : List Value).toArray RX12 := ⟨hx, hb, hml, hown, hts⟩
  have hS : va_S A s.heap s.heap [] := va_S.rf
  have hl := lv_entry ([.ref (ad 12 0 0), .int x1, .int x2, .int x3]) (n := 6) (Nat.le_of_ble_eq_true rfl)
  rw [lg_entry_eq]
  generalize (lg_sl ([.ref (ad 12 0 0), .int x1, .int x2, .int x3]) ++ List.replicate (6 - (lg_sl ([.ref (ad 12 0 0), .int x1, .int x2, .int x3])).length) Slot.unset).toArray = ls at hl ⊢
  have hl : lv_has ls 6 [(0, .ref (ad 12 0 0)), (1, .int x1), (2, .int x2), (3, .int x3)] := hl
  generalize hargs : ([.ref (ad 12 0 0), .int x1, .int x2, .int x3] : List Value).toArray = args at S hts ⊢
  clear hargs
  have KJ47 : ∀ (H : Heap) (locs : List Loc) (ls : Array Slot), zG D aC A nl ad σ s H → va_S A s.heap H locs → lv_has ls 6 [(0, .ref (ad 12 0 0)), (1, .int x1), (2, .int x2), (3, .int x3)] → (f_X12_isStep_B47 σ x1 x2 x3) = some r → zWk p l e ({ frames := 1, cells := 0, slots := 0, locals := 22 } : Room) s m args below meth c A (some (.int r)) (fun t => zG D aC A nl ad σ t t.heap ∧ (r = 0 ∨ r = 1)) H locs (F0 m 47 ls []) := by
    intro    H locs ls hG hS hl hf
    unfold f_X12_isStep_B47 at hf
    refine lv_iconst (v := 1) hx hb dX12_isStep_47 (by decide) ?_
    refine lv_goto (tgt := 52) hx hb dX12_isStep_48 (by decide) ?_
    have hq := (Option.some.inj hf)
    subst hq
    exact z_zret S hG hS hlocks (Or.inr rfl) hr dX12_isStep_52
  have hK0 : ∀ (H : Heap) (locs : List Loc) (ls : Array Slot), zG D aC A nl ad σ s H → va_S A s.heap H locs → lv_has ls 6 [(0, .ref (ad 12 0 0)), (1, .int x1), (2, .int x2), (3, .int x3)] → f_X12_isStep σ x1 x2 x3 = some r → zWk p l e ({ frames := 1, cells := 0, slots := 0, locals := 22 } : Room) s m args below meth c A (some (.int r)) (fun t => zG D aC A nl ad σ t t.heap ∧ (r = 0 ∨ r = 1)) H locs (F0 m 0 ls []) := by
    intro H locs ls hG hS hl hf
    unfold f_X12_isStep at hf
    refine lv_aload_n hx hb dX12_isStep_0 rfl (lv_at hl 0 rfl) ?_
    refine lv_iload_n hx hb dX12_isStep_1 rfl (lv_at hl 1 rfl) ?_
    refine lv_iload_n hx hb dX12_isStep_2 rfl (lv_at hl 2 rfl) ?_
    obtain ⟨r1, er1, hf⟩ := zbi hf
    refine z_callV (n := 2) (rest := []) (st1 := [.int r1]) (c0 := 12) (i0 := 0) (hZ.2.1 (12, 0) (by decide)) (by rfl) S hG hS hZ (fun _ _ h => h) (c_X12_at l D aC zs A nl ad σ x1 x2 r1 er1) zw_899 zw_900 zw_901 zw_5 zw_902 (by decide +kernel) ⟨rfl, rfl⟩ ⟨(Nat.le_of_ble_eq_true rfl), (Nat.le_of_ble_eq_true rfl)⟩ hl.1 rfl (by rfl) (by rfl) (Nat.le_of_ble_eq_true rfl) dX12_isStep_3 ⟨Nat.zero_le _, Nat.zero_le _⟩ (fun H locs hz2 hG hS => ?_)
    refine lv_istore (lv' := [(4, .int r1), (0, .ref (ad 12 0 0)), (1, .int x1), (2, .int x2), (3, .int x3)]) hx hb dX12_isStep_6 hl (by decide) rfl (fun ls hl => ?_)
    refine lv_aload_n hx hb dX12_isStep_8 rfl (lv_at hl 1 rfl) ?_
    refine lv_iload_n hx hb dX12_isStep_9 rfl (lv_at hl 2 rfl) ?_
    refine lv_iload_n hx hb dX12_isStep_10 rfl (lv_at hl 4 rfl) ?_
    obtain ⟨r3, er3, hf⟩ := zbi hf
    refine z_callV (n := 2) (rest := []) (st1 := [.int r3]) (c0 := 12) (i0 := 0) (hZ.2.1 (12, 0) (by decide)) (by rfl) S hG hS hZ (fun _ _ h => h) (c_X12_at l D aC zs A nl ad σ x1 x3 r3 er3) zw_899 zw_900 zw_901 zw_5 zw_902 (by decide +kernel) ⟨rfl, rfl⟩ ⟨(Nat.le_of_ble_eq_true rfl), (Nat.le_of_ble_eq_true rfl)⟩ hl.1 rfl (by rfl) (by rfl) (Nat.le_of_ble_eq_true rfl) dX12_isStep_11 ⟨Nat.zero_le _, Nat.zero_le _⟩ (fun H locs hz4 hG hS => ?_)
    refine lv_istore (lv' := [(5, .int r3), (4, .int r1), (0, .ref (ad 12 0 0)), (1, .int x1), (2, .int x2), (3, .int x3)]) hx hb dX12_isStep_14 hl (by decide) rfl (fun ls hl => ?_)
    refine lv_iload hx hb dX12_isStep_16 (lv_at hl 1 rfl) ?_
    refine lv_if_le (tgt := 51) hx hb dX12_isStep_18 (by decide) (fun c5 => ?_) (fun c5 => ?_)
    · have hf := zif_p c5 hf
      refine lv_iconst (v := 0) hx hb dX12_isStep_51 (by decide) ?_
      have hq := (Option.some.inj hf)
      subst hq
      exact z_zret S hG hS hlocks (Or.inl rfl) hr dX12_isStep_52
    · have hf := zif_n c5 hf
      refine lv_iload hx hb dX12_isStep_21 (lv_at hl 0 rfl) ?_
      refine lv_if_le (tgt := 51) hx hb dX12_isStep_23 (by decide) (fun c6 => ?_) (fun c6 => ?_)
      · have hf := zif_p c6 hf
        refine lv_iconst (v := 0) hx hb dX12_isStep_51 (by decide) ?_
        have hq := (Option.some.inj hf)
        subst hq
        exact z_zret S hG hS hlocks (Or.inl rfl) hr dX12_isStep_52
      · have hf := zif_n c6 hf
        refine lv_iload hx hb dX12_isStep_26 (lv_at hl 1 rfl) ?_
        refine lv_iload hx hb dX12_isStep_28 (lv_at hl 0 rfl) ?_
        refine lv_icmp_eq (tgt := 47) hx hb dX12_isStep_30 (by decide) (fun c7 => ?_) (fun c7 => ?_)
        · have hf := zif_p c7 hf
          exact KJ47 H locs ls hG hS (lv_sub hl [2, 3, 4, 5] rfl) hf
        · have hf := zif_n c7 hf
          refine lv_iload hx hb dX12_isStep_33 (lv_at hl 1 rfl) ?_
          refine lv_bipush (v := 13) hx hb dX12_isStep_35 (by decide) ?_
          refine lv_icmp_ge (tgt := 47) hx hb dX12_isStep_37 (by decide) (fun c8 => ?_) (fun c8 => ?_)
          · have hf := zif_p c8 hf
            exact KJ47 H locs ls hG hS (lv_sub hl [2, 3, 4, 5] rfl) hf
          · have hf := zif_n c8 hf
            refine lv_iload hx hb dX12_isStep_40 (lv_at hl 0 rfl) ?_
            refine lv_bipush (v := 13) hx hb dX12_isStep_42 (by decide) ?_
            refine lv_icmp_lt (tgt := 51) hx hb dX12_isStep_44 (by decide) (fun c9 => ?_) (fun c9 => ?_)
            · have hf := zif_p c9 hf
              refine lv_iconst (v := 0) hx hb dX12_isStep_51 (by decide) ?_
              have hq := (Option.some.inj hf)
              subst hq
              exact z_zret S hG hS hlocks (Or.inl rfl) hr dX12_isStep_52
            · have hf := zif_n c9 hf
              exact KJ47 H locs ls hG hS (lv_sub hl [2, 3, 4, 5] rfl) hf
  exact hK0 _ _ ls hG hS hl hf
set_option maxRecDepth 100000 in
set_option maxHeartbeats 4000000 in
theorem c_X12_stepsOf (l : Launch) (D : va_G) (aC : Nat → ClassId) (zs : Nat × Nat) (A : Nat → Prop) (nl : zNL) (ad : Nat → Nat → Nat → Nat) (σ : zM) (x1 : Int32) (x2 : Int32) (x3 : Int32) (r : Int32) (σ' : zM)  (hf : f_X12_stepsOf σ x1 x2 x3 = some (r, σ')) : Met l yX12_stepsOf (Cond.code yX12_stepsOf cX12_stepsOf 7 (some .int) :: wsL_law) ({ frames := 2, cells := 0, slots := 0, locals := 47 } : Room) (zP D aC zs zfM A nl ad σ [.ref (ad 12 0 0), .int x1, .int x2, .int x3]) (zQ (some (.int r)) (fun t => zG D aC A nl ad σ' t t.heap ∧ True) A) 0 0 A := by
  refine Met.ofW (cc := cX12_stepsOf) (maxL := 7) (ret := (some .int)) (by decide) rfl ?_
  intro p e s m args below meth c s₁ B hml hv
  obtain ⟨rfl, hG, hZ⟩ := hv
  have hx := B.exec
  have hb := B.bytes
  have hr := B.returns
  have hts : ∀ w ∈ wsL_law, w.before ([.ref (ad 12 0 0), .int x1, .int x2, .int x3] : List Value).toArray s = true := fun w h => (atoms_spec B.pre) w (List.mem_cons_of_mem _ h)
  have hown : s.vm.findClass RX12 = some m.cls := findClass_of_methodNamed B.named
  have hlocks := B.notSynchronized
  have S : zS p m c cX12_stepsOf 7 s ([.ref (ad 12 0 0), .int x1, .int x2, .int x3] : List Value).toArray RX12 := ⟨hx, hb, hml, hown, hts⟩
  have hS : va_S A s.heap s.heap [] := va_S.rf
  have hl := lv_entry ([.ref (ad 12 0 0), .int x1, .int x2, .int x3]) (n := 7) (Nat.le_of_ble_eq_true rfl)
  rw [lg_entry_eq]
  generalize (lg_sl ([.ref (ad 12 0 0), .int x1, .int x2, .int x3]) ++ List.replicate (7 - (lg_sl ([.ref (ad 12 0 0), .int x1, .int x2, .int x3])).length) Slot.unset).toArray = ls at hl ⊢
  have hl : lv_has ls 7 [(0, .ref (ad 12 0 0)), (1, .int x1), (2, .int x2), (3, .int x3)] := hl
  generalize hargs : ([.ref (ad 12 0 0), .int x1, .int x2, .int x3] : List Value).toArray = args at S hts ⊢
  clear hargs
  have KJ80 : ∀ (y5b80 : Int32)  (σb80 : zM) (H : Heap) (locs : List Loc) (ls : Array Slot), zG D aC A nl ad σb80 s H → va_S A s.heap H locs → lv_has ls 7 [(0, .ref (ad 12 0 0)), (1, .int x1), (2, .int x2), (3, .int x3), (5, .int y5b80)] → (f_X12_stepsOf_B80 σb80 x1 x2 x3 y5b80) = some (r, σ') → zWk p l e ({ frames := 2, cells := 0, slots := 0, locals := 47 } : Room) s m args below meth c A (some (.int r)) (fun t => zG D aC A nl ad σ' t t.heap ∧ True) H locs (F0 m 80 ls []) := by
    intro y5b80  σb80 H locs ls hG hS hl hf
    unfold f_X12_stepsOf_B80 at hf
    refine lv_aload_n hx hb dX12_stepsOf_80 rfl (lv_at hl 0 rfl) ?_
    refine z_get (c0 := 12) (i0 := 0) (k0 := 7) (T := TX12) (v := .ref (ad 12 0 8)) S hG (hZ.2.1 (12, 0) (by decide)) rfl inlX12 (by decide) rfl zw_229 rfl dX12_stepsOf_81 ?_
    refine lv_iload hx hb dX12_stepsOf_84 (lv_at hl 4 rfl) ?_
    obtain ⟨i39, hi39, hf⟩ := zbi hf
    refine z_iald (c0 := 12) (i0 := 0) (k0 := 7) S hG (hZ.2.1 (12, 0) (by decide)) (by decide) rfl hi39 dX12_stepsOf_86 ?_
    obtain ⟨hq1, hq2⟩ := Prod.mk.inj (Option.some.inj hf)
    subst hq1
    subst hq2
    exact z_iret S hG hS hlocks trivial hr dX12_stepsOf_87
  have KJ48 : ∀ (σb48 : zM) (H : Heap) (locs : List Loc) (ls : Array Slot), zG D aC A nl ad σb48 s H → va_S A s.heap H locs → lv_has ls 7 [(0, .ref (ad 12 0 0)), (1, .int x1), (2, .int x2), (3, .int x3)] → (f_X12_stepsOf_B48 σb48 x1 x2 x3) = some (r, σ') → zWk p l e ({ frames := 2, cells := 0, slots := 0, locals := 47 } : Room) s m args below meth c A (some (.int r)) (fun t => zG D aC A nl ad σ' t t.heap ∧ True) H locs (F0 m 48 ls []) := by
    intro   σb48 H locs ls hG hS hl hf
    unfold f_X12_stepsOf_B48 at hf
    refine lv_iconst (v := 0) hx hb dX12_stepsOf_48 (by decide) ?_
    refine lv_istore (lv' := [(4, .int 0), (0, .ref (ad 12 0 0)), (1, .int x1), (2, .int x2), (3, .int x3)]) hx hb dX12_stepsOf_49 hl (by decide) rfl (fun ls hl => ?_)
    obtain ⟨t51, hw51, hfo51⟩ := zbi hf
    have KL51 : ∀ (n : Nat) (y4l51 : Int32) (σl51 : zM) (H : Heap) (locs : List Loc) (ls : Array Slot), zG D aC A nl ad σl51 s H → va_S A s.heap H locs → lv_has ls 7 [(0, .ref (ad 12 0 0)), (1, .int x1), (2, .int x2), (3, .int x3), (4, .int y4l51)] → zwh (fun (q : (Int32 × zM)) => f_X12_stepsOf_L51 x1 x2 x3 q.1 q.2) n (y4l51, σl51) = some t51 → zWk p l e ({ frames := 2, cells := 0, slots := 0, locals := 47 } : Room) s m args below meth c A (some (.int r)) (fun t => zG D aC A nl ad σ' t t.heap ∧ True) H locs (F0 m 51 ls []) := by
      intro n
      induction n with
      | zero =>
        intro y4l51 σl51 H locs ls hG hS hl hw
        exact (zwh_0 hw).elim
      | succ n ih51 =>
        intro y4l51 σl51 H locs ls hG hS hl hw
        obtain ⟨rr51, hf, hk51⟩ := zwh_u hw
        have hf : f_X12_stepsOf_L51 x1 x2 x3 y4l51 σl51 = some rr51 := hf
        unfold f_X12_stepsOf_L51 at hf
        have KJ201_51 : ∀ (y4b201 : Int32)  (σb201_51 : zM) (H : Heap) (locs : List Loc) (ls : Array Slot), zG D aC A nl ad σb201_51 s H → va_S A s.heap H locs → lv_has ls 7 [(0, .ref (ad 12 0 0)), (1, .int x1), (2, .int x2), (3, .int x3), (4, .int y4b201)] → (f_X12_stepsOf_B201_51 σb201_51 x1 x2 x3 y4b201) = some rr51 → zWk p l e ({ frames := 2, cells := 0, slots := 0, locals := 47 } : Room) s m args below meth c A (some (.int r)) (fun t => zG D aC A nl ad σ' t t.heap ∧ True) H locs (F0 m 201 ls []) := by
          intro y4b201  σb201_51 H locs ls hG hS hl hf
          unfold f_X12_stepsOf_B201_51 at hf
          refine lv_iinc (v := (y4b201 + 1)) (lv' := [(4, .int (y4b201 + 1)), (0, .ref (ad 12 0 0)), (1, .int x1), (2, .int x2), (3, .int x3)]) hx hb dX12_stepsOf_201 hl (k := 4) rfl rfl (by decide) rfl (fun ls hl => ?_)
          refine lv_goto (tgt := 51) hx hb dX12_stepsOf_204 (by decide) ?_
          cases hf
          exact ih51 (y4b201 + 1) σb201_51 H locs ls hG hS (lv_sub hl [1, 2, 3, 4, 0] rfl) hk51
        have KJ151_51 : ∀ (y4b151 : Int32) (y5b151 : Int32)  (σb151_51 : zM) (H : Heap) (locs : List Loc) (ls : Array Slot), zG D aC A nl ad σb151_51 s H → va_S A s.heap H locs → lv_has ls 7 [(0, .ref (ad 12 0 0)), (1, .int x1), (2, .int x2), (3, .int x3), (4, .int y4b151), (5, .int y5b151)] → (f_X12_stepsOf_B151_51 σb151_51 x1 x2 x3 y4b151 y5b151) = some rr51 → zWk p l e ({ frames := 2, cells := 0, slots := 0, locals := 47 } : Room) s m args below meth c A (some (.int r)) (fun t => zG D aC A nl ad σ' t t.heap ∧ True) H locs (F0 m 151 ls []) := by
          intro y4b151 y5b151  σb151_51 H locs ls hG hS hl hf
          unfold f_X12_stepsOf_B151_51 at hf
          refine lv_iload hx hb dX12_stepsOf_151 (lv_at hl 5 rfl) ?_
          refine lv_bipush (v := 80) hx hb dX12_stepsOf_153 (by decide) ?_
          refine lv_iadd hx hb dX12_stepsOf_155 ?_
          refine lv_sipush (v := 160) hx hb dX12_stepsOf_156 (by decide) ?_
          refine z_irem (v := (zrem (y5b151 + 80) 160)) hx hb dX12_stepsOf_159 (by decide) rfl ?_
          refine lv_istore (lv' := [(6, .int (zrem (y5b151 + 80) 160)), (0, .ref (ad 12 0 0)), (1, .int x1), (2, .int x2), (3, .int x3), (4, .int y4b151), (5, .int y5b151)]) hx hb dX12_stepsOf_160 hl (by decide) rfl (fun ls hl => ?_)
          refine lv_aload_n hx hb dX12_stepsOf_162 rfl (lv_at hl 1 rfl) ?_
          refine lv_iload_n hx hb dX12_stepsOf_163 rfl (lv_at hl 2 rfl) ?_
          refine lv_iload hx hb dX12_stepsOf_164 (lv_at hl 6 rfl) ?_
          obtain ⟨r46, er46, hf⟩ := zbi hf
          refine z_callV (n := 2) (rest := []) (st1 := [.int r46]) (c0 := 12) (i0 := 0) (hZ.2.1 (12, 0) (by decide)) (by rfl) S hG hS hZ (fun _ _ h => h) (c_X12_at l D aC zs A nl ad σb151_51 x1 y5b151 r46 er46) zw_899 zw_900 zw_901 zw_5 zw_902 (by decide +kernel) ⟨rfl, rfl⟩ ⟨(Nat.le_of_ble_eq_true rfl), (Nat.le_of_ble_eq_true rfl)⟩ hl.1 rfl (by rfl) (by rfl) (Nat.le_of_ble_eq_true rfl) dX12_stepsOf_166 ⟨Nat.zero_le _, Nat.zero_le _⟩ (fun H locs hz47 hG hS => ?_)
          refine lv_bipush (v := 14) hx hb dX12_stepsOf_169 (by decide) ?_
          refine lv_icmp_ne (tgt := 201) hx hb dX12_stepsOf_171 (by decide) (fun c48 => ?_) (fun c48 => ?_)
          · have hf := zif_n c48 hf
            exact KJ201_51 y4b151 σb151_51 H locs ls hG hS (lv_sub hl [1, 2, 3, 4, 5] rfl) hf
          · have hf := zif_p c48 hf
            refine lv_aload_n hx hb dX12_stepsOf_174 rfl (lv_at hl 1 rfl) ?_
            refine lv_iload_n hx hb dX12_stepsOf_175 rfl (lv_at hl 2 rfl) ?_
            refine lv_iload hx hb dX12_stepsOf_176 (lv_at hl 0 rfl) ?_
            obtain ⟨r49, er49, hf⟩ := zbi hf
            refine z_callV (n := 2) (rest := []) (st1 := [.int r49]) (c0 := 12) (i0 := 0) (hZ.2.1 (12, 0) (by decide)) (by rfl) S hG hS hZ (fun _ _ h => h) (c_X12_at l D aC zs A nl ad σb151_51 x1 (zrem (y5b151 + 80) 160) r49 er49) zw_899 zw_900 zw_901 zw_5 zw_902 (by decide +kernel) ⟨rfl, rfl⟩ ⟨(Nat.le_of_ble_eq_true rfl), (Nat.le_of_ble_eq_true rfl)⟩ hl.1 rfl (by rfl) (by rfl) (Nat.le_of_ble_eq_true rfl) dX12_stepsOf_178 ⟨Nat.zero_le _, Nat.zero_le _⟩ (fun H locs hz50 hG hS => ?_)
            refine lv_bipush (v := 14) hx hb dX12_stepsOf_181 (by decide) ?_
            refine lv_icmp_ne (tgt := 201) hx hb dX12_stepsOf_183 (by decide) (fun c51 => ?_) (fun c51 => ?_)
            · have hf := zif_n c51 hf
              exact KJ201_51 y4b151 σb151_51 H locs ls hG hS (lv_sub hl [1, 2, 3, 4, 5] rfl) hf
            · have hf := zif_p c51 hf
              refine lv_aload_n hx hb dX12_stepsOf_186 rfl (lv_at hl 1 rfl) ?_
              refine lv_iload hx hb dX12_stepsOf_187 (lv_at hl 0 rfl) ?_
              refine lv_aload_n hx hb dX12_stepsOf_189 rfl (lv_at hl 1 rfl) ?_
              refine z_get (c0 := 12) (i0 := 0) (k0 := 7) (T := TX12) (v := .ref (ad 12 0 8)) S hG (hZ.2.1 (12, 0) (by decide)) rfl inlX12 (by decide) rfl zw_229 rfl dX12_stepsOf_190 ?_
              refine lv_iload hx hb dX12_stepsOf_193 (lv_at hl 6 rfl) ?_
              obtain ⟨i52, hi52, hf⟩ := zbi hf
              refine z_iald (c0 := 12) (i0 := 0) (k0 := 7) S hG (hZ.2.1 (12, 0) (by decide)) (by decide) rfl hi52 dX12_stepsOf_195 ?_
              refine lv_iconst (v := 1) hx hb dX12_stepsOf_196 (by decide) ?_
              refine lv_iadd hx hb dX12_stepsOf_197 ?_
              obtain ⟨σ53, eσ53, hf⟩ := zbi hf
              refine z_callV (n := 2) (rest := []) (st1 := []) (c0 := 12) (i0 := 0) (hZ.2.1 (12, 0) (by decide)) (by rfl) S hG hS hZ (fun _ _ h => h) (c_X12_comes l D aC zs A nl ad σb151_51 (zrem (y5b151 + 80) 160) ((zA σb151_51 12 0 7 i52) + 1) σ53 eσ53) zw_938 zw_939 zw_940 zw_5 zw_941 (by decide +kernel) ⟨rfl, rfl⟩ ⟨(Nat.le_of_ble_eq_true rfl), (Nat.le_of_ble_eq_true rfl)⟩ hl.1 rfl (by rfl) (by rfl) (Nat.le_of_ble_eq_true rfl) dX12_stepsOf_198 ⟨Nat.zero_le _, Nat.zero_le _⟩ (fun H locs hz54 hG hS => ?_)
              exact KJ201_51 y4b151 σ53 H locs ls hG hS (lv_sub hl [1, 2, 3, 4, 5] rfl) hf
        refine lv_iload hx hb dX12_stepsOf_51 (lv_at hl 4 rfl) ?_
        refine lv_aload_n hx hb dX12_stepsOf_53 rfl (lv_at hl 0 rfl) ?_
        refine z_get (c0 := 12) (i0 := 0) (k0 := 9) (T := TX12) (v := .int (zI σl51 12 0 9)) S hG (hZ.2.1 (12, 0) (by decide)) rfl inlX12 (by decide) rfl zw_937 rfl dX12_stepsOf_54 ?_
        refine lv_icmp_ge (tgt := 207) hx hb dX12_stepsOf_57 (by decide) (fun c40 => ?_) (fun c40 => ?_)
        · have hf := zif_p c40 hf
          cases hf
          have hk51 : ((.inr σl51) : ((Int32 × zM) ⊕ zM)) = t51 := hk51
          have hf := hfo51
          rw [← hk51] at hf
          have hf : (some ((-1), σl51)) = some (r, σ') := hf
          refine lv_iconst (v := (-1)) hx hb dX12_stepsOf_207 (by decide) ?_
          obtain ⟨hq1, hq2⟩ := Prod.mk.inj (Option.some.inj hf)
          subst hq1
          subst hq2
          exact z_iret S hG hS hlocks trivial hr dX12_stepsOf_208
        · have hf := zif_n c40 hf
          refine lv_aload_n hx hb dX12_stepsOf_60 rfl (lv_at hl 0 rfl) ?_
          refine z_get (c0 := 12) (i0 := 0) (k0 := 8) (T := TX12) (v := .ref (ad 12 0 9)) S hG (hZ.2.1 (12, 0) (by decide)) rfl inlX12 (by decide) rfl zw_230 rfl dX12_stepsOf_61 ?_
          refine lv_iload hx hb dX12_stepsOf_64 (lv_at hl 4 rfl) ?_
          obtain ⟨i41, hi41, hf⟩ := zbi hf
          refine z_iald (c0 := 12) (i0 := 0) (k0 := 8) S hG (hZ.2.1 (12, 0) (by decide)) (by decide) rfl hi41 dX12_stepsOf_66 ?_
          refine lv_istore (lv' := [(5, .int (zA σl51 12 0 8 i41)), (0, .ref (ad 12 0 0)), (1, .int x1), (2, .int x2), (3, .int x3), (4, .int y4l51)]) hx hb dX12_stepsOf_67 hl (by decide) rfl (fun ls hl => ?_)
          refine lv_aload_n hx hb dX12_stepsOf_69 rfl (lv_at hl 1 rfl) ?_
          refine lv_iload_n hx hb dX12_stepsOf_70 rfl (lv_at hl 2 rfl) ?_
          refine lv_iload hx hb dX12_stepsOf_71 (lv_at hl 0 rfl) ?_
          obtain ⟨r42, er42, hf⟩ := zbi hf
          refine z_callV (n := 2) (rest := []) (st1 := [.int r42]) (c0 := 12) (i0 := 0) (hZ.2.1 (12, 0) (by decide)) (by rfl) S hG hS hZ (fun _ _ h => h) (c_X12_at l D aC zs A nl ad σl51 x1 (zA σl51 12 0 8 i41) r42 er42) zw_899 zw_900 zw_901 zw_5 zw_902 (by decide +kernel) ⟨rfl, rfl⟩ ⟨(Nat.le_of_ble_eq_true rfl), (Nat.le_of_ble_eq_true rfl)⟩ hl.1 rfl (by rfl) (by rfl) (Nat.le_of_ble_eq_true rfl) dX12_stepsOf_73 ⟨Nat.zero_le _, Nat.zero_le _⟩ (fun H locs hz43 hG hS => ?_)
          refine lv_iload_n hx hb dX12_stepsOf_76 rfl (lv_at hl 4 rfl) ?_
          refine lv_icmp_ne (tgt := 88) hx hb dX12_stepsOf_77 (by decide) (fun c44 => ?_) (fun c44 => ?_)
          · have hf := zif_n c44 hf
            refine lv_iconst (v := 0) hx hb dX12_stepsOf_88 (by decide) ?_
            refine lv_istore (lv' := [(6, .int 0), (5, .int (zA σl51 12 0 8 i41)), (0, .ref (ad 12 0 0)), (1, .int x1), (2, .int x2), (3, .int x3), (4, .int y4l51)]) hx hb dX12_stepsOf_89 hl (by decide) rfl (fun ls hl => ?_)
            obtain ⟨t91, hw91, hfo91⟩ := zbi hf
            have KL91 : ∀ (n : Nat) (y6l91 : Int32) (σl91 : zM) (H : Heap) (locs : List Loc) (ls : Array Slot), zG D aC A nl ad σl91 s H → va_S A s.heap H locs → lv_has ls 7 [(0, .ref (ad 12 0 0)), (1, .int x1), (2, .int x2), (3, .int x3), (4, .int y4l51), (5, .int (zA σl51 12 0 8 i41)), (6, .int y6l91)] → zwh (fun (q : (Int32 × zM)) => f_X12_stepsOf_L91 x1 x2 x3 y4l51 (zA σl51 12 0 8 i41) q.1 q.2) n (y6l91, σl91) = some t91 → zWk p l e ({ frames := 2, cells := 0, slots := 0, locals := 47 } : Room) s m args below meth c A (some (.int r)) (fun t => zG D aC A nl ad σ' t t.heap ∧ True) H locs (F0 m 91 ls []) := by
              intro n
              induction n with
              | zero =>
                intro y6l91 σl91 H locs ls hG hS hl hw
                exact (zwh_0 hw).elim
              | succ n ih91 =>
                intro y6l91 σl91 H locs ls hG hS hl hw
                obtain ⟨rr91, hf, hk91⟩ := zwh_u hw
                have hf : f_X12_stepsOf_L91 x1 x2 x3 y4l51 (zA σl51 12 0 8 i41) y6l91 σl91 = some rr91 := hf
                unfold f_X12_stepsOf_L91 at hf
                have KJ145_91 : ∀ (y6b145 : Int32)  (σb145_91 : zM) (H : Heap) (locs : List Loc) (ls : Array Slot), zG D aC A nl ad σb145_91 s H → va_S A s.heap H locs → lv_has ls 7 [(0, .ref (ad 12 0 0)), (1, .int x1), (2, .int x2), (3, .int x3), (4, .int y4l51), (5, .int (zA σl51 12 0 8 i41)), (6, .int y6b145)] → (f_X12_stepsOf_B145_91 σb145_91 x1 x2 x3 y4l51 (zA σl51 12 0 8 i41) y6b145) = some rr91 → zWk p l e ({ frames := 2, cells := 0, slots := 0, locals := 47 } : Room) s m args below meth c A (some (.int r)) (fun t => zG D aC A nl ad σ' t t.heap ∧ True) H locs (F0 m 145 ls []) := by
                  intro y6b145  σb145_91 H locs ls hG hS hl hf
                  unfold f_X12_stepsOf_B145_91 at hf
                  refine lv_iinc (v := (y6b145 + 1)) (lv' := [(6, .int (y6b145 + 1)), (0, .ref (ad 12 0 0)), (1, .int x1), (2, .int x2), (3, .int x3), (4, .int y4l51), (5, .int (zA σl51 12 0 8 i41))]) hx hb dX12_stepsOf_145 hl (k := 6) rfl rfl (by decide) rfl (fun ls hl => ?_)
                  refine lv_goto (tgt := 91) hx hb dX12_stepsOf_148 (by decide) ?_
                  cases hf
                  exact ih91 (y6b145 + 1) σb145_91 H locs ls hG hS (lv_sub hl [1, 2, 3, 4, 5, 6, 0] rfl) hk91
                refine lv_iload hx hb dX12_stepsOf_91 (lv_at hl 6 rfl) ?_
                refine lv_iconst (v := 4) hx hb dX12_stepsOf_93 (by decide) ?_
                refine lv_icmp_ge (tgt := 151) hx hb dX12_stepsOf_94 (by decide) (fun c65 => ?_) (fun c65 => ?_)
                · have hf := zif_p c65 hf
                  cases hf
                  have hk91 : (σl91 : zM) = t91 := hk91
                  have hf := hfo91
                  rw [← hk91] at hf
                  have hf : (f_X12_stepsOf_B151_51 σl91 x1 x2 x3 y4l51 (zA σl51 12 0 8 i41)) = some rr51 := hf
                  exact KJ151_51 y4l51 (zA σl51 12 0 8 i41) σl91 H locs ls hG hS (lv_sub hl [0, 1, 2, 3, 4, 5] rfl) hf
                · have hf := zif_n c65 hf
                  refine lv_iload hx hb dX12_stepsOf_97 (lv_at hl 5 rfl) ?_
                  refine lv_iload hx hb dX12_stepsOf_99 (lv_at hl 6 rfl) ?_
                  refine z_callS (n := 2) (rest := []) (st1 := [.int (f_X12_beside (zA σl51 12 0 8 i41) y6l91)]) S hG hS hZ (fun _ _ h => h) (c_X12_beside l D aC zs A nl ad σl91 (zA σl51 12 0 8 i41) y6l91 (f_X12_beside (zA σl51 12 0 8 i41) y6l91) rfl) zw_910 zw_911 zw_5 zw_912 (by decide +kernel) ⟨rfl, rfl⟩ ⟨(Nat.le_of_ble_eq_true rfl), (Nat.le_of_ble_eq_true rfl)⟩ hl.1 rfl (by rfl) (by rfl) (Nat.le_of_ble_eq_true rfl) dX12_stepsOf_101 ⟨Nat.zero_le _, Nat.zero_le _⟩ (fun H locs hz66 hG hS => ?_)
                  refine lv_iconst (v := (-1)) hx hb dX12_stepsOf_104 (by decide) ?_
                  refine lv_icmp_eq (tgt := 145) hx hb dX12_stepsOf_105 (by decide) (fun c67 => ?_) (fun c67 => ?_)
                  · have hf := zif_p c67 hf
                    exact KJ145_91 y6l91 σl91 H locs ls hG hS (lv_sub hl [0, 1, 2, 3, 4, 5, 6] rfl) hf
                  · have hf := zif_n c67 hf
                    refine lv_aload_n hx hb dX12_stepsOf_108 rfl (lv_at hl 0 rfl) ?_
                    refine lv_iload_n hx hb dX12_stepsOf_109 rfl (lv_at hl 1 rfl) ?_
                    refine lv_iload hx hb dX12_stepsOf_110 (lv_at hl 5 rfl) ?_
                    refine lv_iload hx hb dX12_stepsOf_112 (lv_at hl 5 rfl) ?_
                    refine lv_iload hx hb dX12_stepsOf_114 (lv_at hl 6 rfl) ?_
                    refine z_callS (n := 2) (rest := [.int (zA σl51 12 0 8 i41), .int x1, .ref (ad 12 0 0)]) (st1 := [.int (f_X12_beside (zA σl51 12 0 8 i41) y6l91), .int (zA σl51 12 0 8 i41), .int x1, .ref (ad 12 0 0)]) S hG hS hZ (fun _ _ h => h) (c_X12_beside l D aC zs A nl ad σl91 (zA σl51 12 0 8 i41) y6l91 (f_X12_beside (zA σl51 12 0 8 i41) y6l91) rfl) zw_910 zw_911 zw_5 zw_912 (by decide +kernel) ⟨rfl, rfl⟩ ⟨(Nat.le_of_ble_eq_true rfl), (Nat.le_of_ble_eq_true rfl)⟩ hl.1 rfl (by rfl) (by rfl) (Nat.le_of_ble_eq_true rfl) dX12_stepsOf_116 ⟨Nat.zero_le _, Nat.zero_le _⟩ (fun H locs hz68 hG hS => ?_)
                    obtain ⟨r69, er69, hf⟩ := zbi hf
                    refine z_callV (n := 3) (rest := []) (st1 := [.int r69]) (c0 := 12) (i0 := 0) (hZ.2.1 (12, 0) (by decide)) (by rfl) S hG hS hZ (fun _ _ h => h) (c_X12_isStep l D aC zs A nl ad σl91 x1 (zA σl51 12 0 8 i41) (f_X12_beside (zA σl51 12 0 8 i41) y6l91) r69 er69) zw_942 zw_943 zw_944 zw_5 zw_945 (by decide +kernel) ⟨rfl, rfl⟩ ⟨(Nat.le_of_ble_eq_true rfl), (Nat.le_of_ble_eq_true rfl)⟩ hl.1 rfl (by rfl) (by rfl) (Nat.le_of_ble_eq_true rfl) dX12_stepsOf_119 ⟨Nat.zero_le _, Nat.zero_le _⟩ (fun H locs hz70 hG hS => ?_)
                    refine lv_if_eq (tgt := 145) hx hb dX12_stepsOf_122 (by decide) (fun c71 => ?_) (fun c71 => ?_)
                    · have hf := zif_p c71 hf
                      exact KJ145_91 y6l91 σl91 H locs ls hG hS (lv_sub hl [0, 1, 2, 3, 4, 5, 6] rfl) hf
                    · have hf := zif_n c71 hf
                      refine lv_aload_n hx hb dX12_stepsOf_125 rfl (lv_at hl 0 rfl) ?_
                      refine lv_iload hx hb dX12_stepsOf_126 (lv_at hl 5 rfl) ?_
                      refine lv_iload hx hb dX12_stepsOf_128 (lv_at hl 6 rfl) ?_
                      refine z_callS (n := 2) (rest := [.ref (ad 12 0 0)]) (st1 := [.int (f_X12_beside (zA σl51 12 0 8 i41) y6l91), .ref (ad 12 0 0)]) S hG hS hZ (fun _ _ h => h) (c_X12_beside l D aC zs A nl ad σl91 (zA σl51 12 0 8 i41) y6l91 (f_X12_beside (zA σl51 12 0 8 i41) y6l91) rfl) zw_910 zw_911 zw_5 zw_912 (by decide +kernel) ⟨rfl, rfl⟩ ⟨(Nat.le_of_ble_eq_true rfl), (Nat.le_of_ble_eq_true rfl)⟩ hl.1 rfl (by rfl) (by rfl) (Nat.le_of_ble_eq_true rfl) dX12_stepsOf_130 ⟨Nat.zero_le _, Nat.zero_le _⟩ (fun H locs hz72 hG hS => ?_)
                      refine lv_aload_n hx hb dX12_stepsOf_133 rfl (lv_at hl 0 rfl) ?_
                      refine z_get (c0 := 12) (i0 := 0) (k0 := 7) (T := TX12) (v := .ref (ad 12 0 8)) S hG (hZ.2.1 (12, 0) (by decide)) rfl inlX12 (by decide) rfl zw_229 rfl dX12_stepsOf_134 ?_
                      refine lv_iload hx hb dX12_stepsOf_137 (lv_at hl 5 rfl) ?_
                      obtain ⟨i73, hi73, hf⟩ := zbi hf
                      refine z_iald (c0 := 12) (i0 := 0) (k0 := 7) S hG (hZ.2.1 (12, 0) (by decide)) (by decide) rfl hi73 dX12_stepsOf_139 ?_
                      refine lv_iconst (v := 1) hx hb dX12_stepsOf_140 (by decide) ?_
                      refine lv_iadd hx hb dX12_stepsOf_141 ?_
                      obtain ⟨σ74, eσ74, hf⟩ := zbi hf
                      refine z_callV (n := 2) (rest := []) (st1 := []) (c0 := 12) (i0 := 0) (hZ.2.1 (12, 0) (by decide)) (by rfl) S hG hS hZ (fun _ _ h => h) (c_X12_comes l D aC zs A nl ad σl91 (f_X12_beside (zA σl51 12 0 8 i41) y6l91) ((zA σl91 12 0 7 i73) + 1) σ74 eσ74) zw_938 zw_939 zw_940 zw_5 zw_941 (by decide +kernel) ⟨rfl, rfl⟩ ⟨(Nat.le_of_ble_eq_true rfl), (Nat.le_of_ble_eq_true rfl)⟩ hl.1 rfl (by rfl) (by rfl) (Nat.le_of_ble_eq_true rfl) dX12_stepsOf_142 ⟨Nat.zero_le _, Nat.zero_le _⟩ (fun H locs hz75 hG hS => ?_)
                      exact KJ145_91 y6l91 σ74 H locs ls hG hS (lv_sub hl [0, 1, 2, 3, 4, 5, 6] rfl) hf
            exact KL91 zFu 0 σl51 H locs ls hG hS (lv_sub hl [2, 3, 4, 5, 6, 1, 0] rfl) hw91
          · have hf := zif_p c44 hf
            cases hf
            have hk51 : ((.inl ((zA σl51 12 0 8 i41), σl51)) : ((Int32 × zM) ⊕ zM)) = t51 := hk51
            have hf := hfo51
            rw [← hk51] at hf
            have hf : (f_X12_stepsOf_B80 σl51 x1 x2 x3 (zA σl51 12 0 8 i41)) = some (r, σ') := hf
            exact KJ80 (zA σl51 12 0 8 i41) σl51 H locs ls hG hS (lv_sub hl [1, 2, 3, 4, 0] rfl) hf
    exact KL51 zFu 0 σb48 H locs ls hG hS (lv_sub hl [1, 2, 3, 4, 0] rfl) hw51
  have hK0 : ∀ (H : Heap) (locs : List Loc) (ls : Array Slot), zG D aC A nl ad σ s H → va_S A s.heap H locs → lv_has ls 7 [(0, .ref (ad 12 0 0)), (1, .int x1), (2, .int x2), (3, .int x3)] → f_X12_stepsOf σ x1 x2 x3 = some (r, σ') → zWk p l e ({ frames := 2, cells := 0, slots := 0, locals := 47 } : Room) s m args below meth c A (some (.int r)) (fun t => zG D aC A nl ad σ' t t.heap ∧ True) H locs (F0 m 0 ls []) := by
    intro H locs ls hG hS hl hf
    unfold f_X12_stepsOf at hf
    refine lv_aload_n hx hb dX12_stepsOf_0 rfl (lv_at hl 0 rfl) ?_
    refine lv_iconst (v := 0) hx hb dX12_stepsOf_1 (by decide) ?_
    refine z_putI (c0 := 12) (i0 := 0) (k0 := 9) (T := TX12) S hG hS tyX12 tyX12_ok nmX12 (hZ.2.1 (12, 0) (by decide)) rfl inlX12 (by decide) rfl rfl zw_937 (by decide +kernel) rfl dX12_stepsOf_2 (fun H locs hG hS => ?_)
    obtain ⟨σ1, eσ1, hf⟩ := zlt_s hf
    rw [← eσ1] at hG
    refine lv_iconst (v := 0) hx hb dX12_stepsOf_5 (by decide) ?_
    refine lv_istore (lv' := [(4, .int 0), (0, .ref (ad 12 0 0)), (1, .int x1), (2, .int x2), (3, .int x3)]) hx hb dX12_stepsOf_6 hl (by decide) rfl (fun ls hl => ?_)
    obtain ⟨t8, hw8, hfo8⟩ := zbi hf
    have KL8 : ∀ (n : Nat) (y4l8 : Int32) (σl8 : zM) (H : Heap) (locs : List Loc) (ls : Array Slot), zG D aC A nl ad σl8 s H → va_S A s.heap H locs → lv_has ls 7 [(0, .ref (ad 12 0 0)), (1, .int x1), (2, .int x2), (3, .int x3), (4, .int y4l8)] → zwh (fun (q : (Int32 × zM)) => f_X12_stepsOf_L8 x1 x2 x3 q.1 q.2) n (y4l8, σl8) = some t8 → zWk p l e ({ frames := 2, cells := 0, slots := 0, locals := 47 } : Room) s m args below meth c A (some (.int r)) (fun t => zG D aC A nl ad σ' t t.heap ∧ True) H locs (F0 m 8 ls []) := by
      intro n
      induction n with
      | zero =>
        intro y4l8 σl8 H locs ls hG hS hl hw
        exact (zwh_0 hw).elim
      | succ n ih8 =>
        intro y4l8 σl8 H locs ls hG hS hl hw
        obtain ⟨rr8, hf, hk8⟩ := zwh_u hw
        have hf : f_X12_stepsOf_L8 x1 x2 x3 y4l8 σl8 = some rr8 := hf
        unfold f_X12_stepsOf_L8 at hf
        have KJ42_8 : ∀ (y4b42 : Int32)  (σb42_8 : zM) (H : Heap) (locs : List Loc) (ls : Array Slot), zG D aC A nl ad σb42_8 s H → va_S A s.heap H locs → lv_has ls 7 [(0, .ref (ad 12 0 0)), (1, .int x1), (2, .int x2), (3, .int x3), (4, .int y4b42)] → (f_X12_stepsOf_B42_8 σb42_8 x1 x2 x3 y4b42) = some rr8 → zWk p l e ({ frames := 2, cells := 0, slots := 0, locals := 47 } : Room) s m args below meth c A (some (.int r)) (fun t => zG D aC A nl ad σ' t t.heap ∧ True) H locs (F0 m 42 ls []) := by
          intro y4b42  σb42_8 H locs ls hG hS hl hf
          unfold f_X12_stepsOf_B42_8 at hf
          refine lv_iinc (v := (y4b42 + 1)) (lv' := [(4, .int (y4b42 + 1)), (0, .ref (ad 12 0 0)), (1, .int x1), (2, .int x2), (3, .int x3)]) hx hb dX12_stepsOf_42 hl (k := 4) rfl rfl (by decide) rfl (fun ls hl => ?_)
          refine lv_goto (tgt := 8) hx hb dX12_stepsOf_45 (by decide) ?_
          cases hf
          exact ih8 (y4b42 + 1) σb42_8 H locs ls hG hS (lv_sub hl [1, 2, 3, 4, 0] rfl) hk8
        refine lv_iload hx hb dX12_stepsOf_8 (lv_at hl 4 rfl) ?_
        refine lv_sipush (v := 160) hx hb dX12_stepsOf_10 (by decide) ?_
        refine lv_icmp_ge (tgt := 48) hx hb dX12_stepsOf_13 (by decide) (fun c83 => ?_) (fun c83 => ?_)
        · have hf := zif_p c83 hf
          cases hf
          have hk8 : (σl8 : zM) = t8 := hk8
          have hf := hfo8
          rw [← hk8] at hf
          have hf : (f_X12_stepsOf_B48 σl8 x1 x2 x3) = some (r, σ') := hf
          exact KJ48 σl8 H locs ls hG hS (lv_sub hl [0, 1, 2, 3] rfl) hf
        · have hf := zif_n c83 hf
          refine lv_aload_n hx hb dX12_stepsOf_16 rfl (lv_at hl 0 rfl) ?_
          refine z_get (c0 := 12) (i0 := 0) (k0 := 7) (T := TX12) (v := .ref (ad 12 0 8)) S hG (hZ.2.1 (12, 0) (by decide)) rfl inlX12 (by decide) rfl zw_229 rfl dX12_stepsOf_17 ?_
          refine lv_iload hx hb dX12_stepsOf_20 (lv_at hl 4 rfl) ?_
          refine lv_iconst (v := (-1)) hx hb dX12_stepsOf_22 (by decide) ?_
          obtain ⟨i84, hi84, hf⟩ := zbi hf
          refine z_iast (c0 := 12) (i0 := 0) (k0 := 7) S hG hS (hZ.2.1 (12, 0) (by decide)) (by decide) rfl hi84 dX12_stepsOf_23 (fun H locs hG hS => ?_)
          obtain ⟨σ85, eσ85, hf⟩ := zlt_s hf
          rw [← eσ85] at hG
          refine lv_aload_n hx hb dX12_stepsOf_24 rfl (lv_at hl 0 rfl) ?_
          refine lv_iload_n hx hb dX12_stepsOf_25 rfl (lv_at hl 1 rfl) ?_
          refine lv_iload hx hb dX12_stepsOf_26 (lv_at hl 4 rfl) ?_
          obtain ⟨r86, er86, hf⟩ := zbi hf
          refine z_callV (n := 2) (rest := []) (st1 := [.int r86]) (c0 := 12) (i0 := 0) (hZ.2.1 (12, 0) (by decide)) (by rfl) S hG hS hZ (fun _ _ h => h) (c_X12_at l D aC zs A nl ad σ85 x1 y4l8 r86 er86) zw_899 zw_900 zw_901 zw_5 zw_902 (by decide +kernel) ⟨rfl, rfl⟩ ⟨(Nat.le_of_ble_eq_true rfl), (Nat.le_of_ble_eq_true rfl)⟩ hl.1 rfl (by rfl) (by rfl) (Nat.le_of_ble_eq_true rfl) dX12_stepsOf_28 ⟨Nat.zero_le _, Nat.zero_le _⟩ (fun H locs hz87 hG hS => ?_)
          refine lv_iload_n hx hb dX12_stepsOf_31 rfl (lv_at hl 2 rfl) ?_
          refine lv_icmp_ne (tgt := 42) hx hb dX12_stepsOf_32 (by decide) (fun c88 => ?_) (fun c88 => ?_)
          · have hf := zif_n c88 hf
            exact KJ42_8 y4l8 σ85 H locs ls hG hS (lv_sub hl [0, 1, 2, 3, 4] rfl) hf
          · have hf := zif_p c88 hf
            refine lv_aload_n hx hb dX12_stepsOf_35 rfl (lv_at hl 0 rfl) ?_
            refine lv_iload hx hb dX12_stepsOf_36 (lv_at hl 4 rfl) ?_
            refine lv_iconst (v := 0) hx hb dX12_stepsOf_38 (by decide) ?_
            obtain ⟨σ89, eσ89, hf⟩ := zbi hf
            refine z_callV (n := 2) (rest := []) (st1 := []) (c0 := 12) (i0 := 0) (hZ.2.1 (12, 0) (by decide)) (by rfl) S hG hS hZ (fun _ _ h => h) (c_X12_comes l D aC zs A nl ad σ85 y4l8 0 σ89 eσ89) zw_938 zw_939 zw_940 zw_5 zw_941 (by decide +kernel) ⟨rfl, rfl⟩ ⟨(Nat.le_of_ble_eq_true rfl), (Nat.le_of_ble_eq_true rfl)⟩ hl.1 rfl (by rfl) (by rfl) (Nat.le_of_ble_eq_true rfl) dX12_stepsOf_39 ⟨Nat.zero_le _, Nat.zero_le _⟩ (fun H locs hz90 hG hS => ?_)
            exact KJ42_8 y4l8 σ89 H locs ls hG hS (lv_sub hl [0, 1, 2, 3, 4] rfl) hf
    exact KL8 zFu 0 σ1 H locs ls hG hS (lv_sub hl [1, 2, 3, 4, 0] rfl) hw8
  exact hK0 _ _ ls hG hS hl hf
set_option maxRecDepth 100000 in
set_option maxHeartbeats 4000000 in
theorem c_X12_steps (l : Launch) (D : va_G) (aC : Nat → ClassId) (zs : Nat × Nat) (A : Nat → Prop) (nl : zNL) (ad : Nat → Nat → Nat → Nat) (σ : zM) (x1 : Int32) (x2 : Int32) (x3 : Int32) (r : Int32) (σ' : zM)  (hf : f_X12_steps σ x1 x2 x3 = some (r, σ')) : Met l yX12_steps (Cond.code yX12_steps cX12_steps 4 (some .int) :: wsL_law) ({ frames := 3, cells := 0, slots := 0, locals := 73 } : Room) (zP D aC zs zfM A nl ad σ [.ref (ad 12 0 0), .int x1, .int x2, .int x3]) (zQ (some (.int r)) (fun t => zG D aC A nl ad σ' t t.heap ∧ True) A) 0 0 A := by
  refine Met.ofW (cc := cX12_steps) (maxL := 4) (ret := (some .int)) (by decide) rfl ?_
  intro p e s m args below meth c s₁ B hml hv
  obtain ⟨rfl, hG, hZ⟩ := hv
  have hx := B.exec
  have hb := B.bytes
  have hr := B.returns
  have hts : ∀ w ∈ wsL_law, w.before ([.ref (ad 12 0 0), .int x1, .int x2, .int x3] : List Value).toArray s = true := fun w h => (atoms_spec B.pre) w (List.mem_cons_of_mem _ h)
  have hown : s.vm.findClass RX12 = some m.cls := findClass_of_methodNamed B.named
  have hlocks := B.notSynchronized
  have S : zS p m c cX12_steps 4 s ([.ref (ad 12 0 0), .int x1, .int x2, .int x3] : List Value).toArray RX12 := ⟨hx, hb, hml, hown, hts⟩
  have hS : va_S A s.heap s.heap [] := va_S.rf
  have hl := lv_entry ([.ref (ad 12 0 0), .int x1, .int x2, .int x3]) (n := 4) (Nat.le_of_ble_eq_true rfl)
  rw [lg_entry_eq]
  generalize (lg_sl ([.ref (ad 12 0 0), .int x1, .int x2, .int x3]) ++ List.replicate (4 - (lg_sl ([.ref (ad 12 0 0), .int x1, .int x2, .int x3])).length) Slot.unset).toArray = ls at hl ⊢
  have hl : lv_has ls 4 [(0, .ref (ad 12 0 0)), (1, .int x1), (2, .int x2), (3, .int x3)] := hl
  generalize hargs : ([.ref (ad 12 0 0), .int x1, .int x2, .int x3] : List Value).toArray = args at S hts ⊢
  clear hargs
  have hK0 : ∀ (H : Heap) (locs : List Loc) (ls : Array Slot), zG D aC A nl ad σ s H → va_S A s.heap H locs → lv_has ls 4 [(0, .ref (ad 12 0 0)), (1, .int x1), (2, .int x2), (3, .int x3)] → f_X12_steps σ x1 x2 x3 = some (r, σ') → zWk p l e ({ frames := 3, cells := 0, slots := 0, locals := 73 } : Room) s m args below meth c A (some (.int r)) (fun t => zG D aC A nl ad σ' t t.heap ∧ True) H locs (F0 m 0 ls []) := by
    intro H locs ls hG hS hl hf
    unfold f_X12_steps at hf
    refine lv_aload_n hx hb dX12_steps_0 rfl (lv_at hl 0 rfl) ?_
    refine lv_iload_n hx hb dX12_steps_1 rfl (lv_at hl 1 rfl) ?_
    refine z_callV (n := 1) (rest := []) (st1 := [.int (f_X12_isScheme σ x1)]) (c0 := 12) (i0 := 0) (hZ.2.1 (12, 0) (by decide)) (by rfl) S hG hS hZ (fun _ _ h => h) (c_X12_isScheme l D aC zs A nl ad σ x1 (f_X12_isScheme σ x1) rfl) zw_837 zw_838 zw_839 zw_5 zw_840 (by decide +kernel) ⟨rfl, rfl⟩ ⟨(Nat.le_of_ble_eq_true rfl), (Nat.le_of_ble_eq_true rfl)⟩ hl.1 rfl (by rfl) (by rfl) (Nat.le_of_ble_eq_true rfl) dX12_steps_2 ⟨Nat.zero_le _, Nat.zero_le _⟩ (fun H locs hz1 hG hS => ?_)
    refine lv_if_eq (tgt := 37) hx hb dX12_steps_5 (by decide) (fun c2 => ?_) (fun c2 => ?_)
    · have hf := zif_p c2 hf
      refine lv_iconst (v := (-1)) hx hb dX12_steps_37 (by decide) ?_
      obtain ⟨hq1, hq2⟩ := Prod.mk.inj (Option.some.inj hf)
      subst hq1
      subst hq2
      exact z_iret S hG hS hlocks trivial hr dX12_steps_38
    · have hf := zif_n c2 hf
      refine lv_iload_n hx hb dX12_steps_8 rfl (lv_at hl 2 rfl) ?_
      refine z_callS (n := 1) (rest := []) (st1 := [.int (f_X12_isRoom x2)]) S hG hS hZ (fun _ _ h => h) (c_X12_isRoom l D aC zs A nl ad σ x2 (f_X12_isRoom x2) rfl) zw_892 zw_893 zw_5 zw_894 (by decide +kernel) ⟨rfl, rfl⟩ ⟨(Nat.le_of_ble_eq_true rfl), (Nat.le_of_ble_eq_true rfl)⟩ hl.1 rfl (by rfl) (by rfl) (Nat.le_of_ble_eq_true rfl) dX12_steps_9 ⟨Nat.zero_le _, Nat.zero_le _⟩ (fun H locs hz3 hG hS => ?_)
      refine lv_if_eq (tgt := 37) hx hb dX12_steps_12 (by decide) (fun c4 => ?_) (fun c4 => ?_)
      · have hf := zif_p c4 hf
        refine lv_iconst (v := (-1)) hx hb dX12_steps_37 (by decide) ?_
        obtain ⟨hq1, hq2⟩ := Prod.mk.inj (Option.some.inj hf)
        subst hq1
        subst hq2
        exact z_iret S hG hS hlocks trivial hr dX12_steps_38
      · have hf := zif_n c4 hf
        refine lv_iload_n hx hb dX12_steps_15 rfl (lv_at hl 3 rfl) ?_
        refine z_callS (n := 1) (rest := []) (st1 := [.int (f_X12_isRoom x3)]) S hG hS hZ (fun _ _ h => h) (c_X12_isRoom l D aC zs A nl ad σ x3 (f_X12_isRoom x3) rfl) zw_892 zw_893 zw_5 zw_894 (by decide +kernel) ⟨rfl, rfl⟩ ⟨(Nat.le_of_ble_eq_true rfl), (Nat.le_of_ble_eq_true rfl)⟩ hl.1 rfl (by rfl) (by rfl) (Nat.le_of_ble_eq_true rfl) dX12_steps_16 ⟨Nat.zero_le _, Nat.zero_le _⟩ (fun H locs hz5 hG hS => ?_)
        refine lv_if_eq (tgt := 37) hx hb dX12_steps_19 (by decide) (fun c6 => ?_) (fun c6 => ?_)
        · have hf := zif_p c6 hf
          refine lv_iconst (v := (-1)) hx hb dX12_steps_37 (by decide) ?_
          obtain ⟨hq1, hq2⟩ := Prod.mk.inj (Option.some.inj hf)
          subst hq1
          subst hq2
          exact z_iret S hG hS hlocks trivial hr dX12_steps_38
        · have hf := zif_n c6 hf
          refine lv_iload_n hx hb dX12_steps_22 rfl (lv_at hl 2 rfl) ?_
          refine lv_iload_n hx hb dX12_steps_23 rfl (lv_at hl 3 rfl) ?_
          refine lv_icmp_eq (tgt := 37) hx hb dX12_steps_24 (by decide) (fun c7 => ?_) (fun c7 => ?_)
          · have hf := zif_p c7 hf
            refine lv_iconst (v := (-1)) hx hb dX12_steps_37 (by decide) ?_
            obtain ⟨hq1, hq2⟩ := Prod.mk.inj (Option.some.inj hf)
            subst hq1
            subst hq2
            exact z_iret S hG hS hlocks trivial hr dX12_steps_38
          · have hf := zif_n c7 hf
            refine lv_aload_n hx hb dX12_steps_27 rfl (lv_at hl 0 rfl) ?_
            refine lv_iload_n hx hb dX12_steps_28 rfl (lv_at hl 1 rfl) ?_
            refine lv_iload_n hx hb dX12_steps_29 rfl (lv_at hl 2 rfl) ?_
            refine lv_iload_n hx hb dX12_steps_30 rfl (lv_at hl 3 rfl) ?_
            obtain ⟨q8, eq8, hf⟩ := zbi hf
            refine z_callV (n := 3) (rest := []) (st1 := [.int q8.1]) (c0 := 12) (i0 := 0) (hZ.2.1 (12, 0) (by decide)) (by rfl) S hG hS hZ (fun _ _ h => h) (c_X12_stepsOf l D aC zs A nl ad σ x1 x2 x3 q8.1 q8.2 eq8) zw_933 zw_934 zw_935 zw_5 zw_936 (by decide +kernel) ⟨rfl, rfl⟩ ⟨(Nat.le_of_ble_eq_true rfl), (Nat.le_of_ble_eq_true rfl)⟩ hl.1 rfl (by rfl) (by rfl) (Nat.le_of_ble_eq_true rfl) dX12_steps_31 ⟨Nat.zero_le _, Nat.zero_le _⟩ (fun H locs hz9 hG hS => ?_)
            refine lv_goto (tgt := 38) hx hb dX12_steps_34 (by decide) ?_
            obtain ⟨hq1, hq2⟩ := Prod.mk.inj (Option.some.inj hf)
            subst hq1
            subst hq2
            exact z_iret S hG hS hlocks trivial hr dX12_steps_38
  exact hK0 _ _ ls hG hS hl hf
set_option maxRecDepth 100000 in
set_option maxHeartbeats 4000000 in
theorem c_X12_wallsOf (l : Launch) (D : va_G) (aC : Nat → ClassId) (zs : Nat × Nat) (A : Nat → Prop) (nl : zNL) (ad : Nat → Nat → Nat → Nat) (σ : zM) (x1 : Int32) (r : Int32)  (hf : f_X12_wallsOf σ x1 = some r) : Met l yX12_wallsOf (Cond.code yX12_wallsOf cX12_wallsOf 7 (some .int) :: wsL_law) ({ frames := 2, cells := 0, slots := 0, locals := 45 } : Room) (zP D aC zs zfM A nl ad σ [.ref (ad 12 0 0), .int x1]) (zQ (some (.int r)) (fun t => zG D aC A nl ad σ t t.heap ∧ True) A) 0 0 A := by
  refine Met.ofW (cc := cX12_wallsOf) (maxL := 7) (ret := (some .int)) (by decide) rfl ?_
  intro p e s m args below meth c s₁ B hml hv
  obtain ⟨rfl, hG, hZ⟩ := hv
  have hx := B.exec
  have hb := B.bytes
  have hr := B.returns
  have hts : ∀ w ∈ wsL_law, w.before ([.ref (ad 12 0 0), .int x1] : List Value).toArray s = true := fun w h => (atoms_spec B.pre) w (List.mem_cons_of_mem _ h)
  have hown : s.vm.findClass RX12 = some m.cls := findClass_of_methodNamed B.named
  have hlocks := B.notSynchronized
  have S : zS p m c cX12_wallsOf 7 s ([.ref (ad 12 0 0), .int x1] : List Value).toArray RX12 := ⟨hx, hb, hml, hown, hts⟩
  have hS : va_S A s.heap s.heap [] := va_S.rf
  have hl := lv_entry ([.ref (ad 12 0 0), .int x1]) (n := 7) (Nat.le_of_ble_eq_true rfl)
  rw [lg_entry_eq]
  generalize (lg_sl ([.ref (ad 12 0 0), .int x1]) ++ List.replicate (7 - (lg_sl ([.ref (ad 12 0 0), .int x1])).length) Slot.unset).toArray = ls at hl ⊢
  have hl : lv_has ls 7 [(0, .ref (ad 12 0 0)), (1, .int x1)] := hl
  generalize hargs : ([.ref (ad 12 0 0), .int x1] : List Value).toArray = args at S hts ⊢
  clear hargs
  have hK0 : ∀ (H : Heap) (locs : List Loc) (ls : Array Slot), zG D aC A nl ad σ s H → va_S A s.heap H locs → lv_has ls 7 [(0, .ref (ad 12 0 0)), (1, .int x1)] → f_X12_wallsOf σ x1 = some r → zWk p l e ({ frames := 2, cells := 0, slots := 0, locals := 45 } : Room) s m args below meth c A (some (.int r)) (fun t => zG D aC A nl ad σ t t.heap ∧ True) H locs (F0 m 0 ls []) := by
    intro H locs ls hG hS hl hf
    unfold f_X12_wallsOf at hf
    refine lv_iconst (v := 0) hx hb dX12_wallsOf_0 (by decide) ?_
    refine lv_istore_n (lv' := [(2, .int 0), (0, .ref (ad 12 0 0)), (1, .int x1)]) hx hb dX12_wallsOf_1 rfl hl (by decide) rfl (fun ls hl => ?_)
    refine lv_iconst (v := 0) hx hb dX12_wallsOf_2 (by decide) ?_
    refine lv_istore_n (lv' := [(3, .int 0), (2, .int 0), (0, .ref (ad 12 0 0)), (1, .int x1)]) hx hb dX12_wallsOf_3 rfl hl (by decide) rfl (fun ls hl => ?_)
    obtain ⟨t4, hw4, hfo4⟩ := zbi hf
    have KL4 : ∀ (n : Nat) (y2l4 : Int32) (y3l4 : Int32) (H : Heap) (locs : List Loc) (ls : Array Slot), zG D aC A nl ad σ s H → va_S A s.heap H locs → lv_has ls 7 [(0, .ref (ad 12 0 0)), (1, .int x1), (2, .int y2l4), (3, .int y3l4)] → zwh (fun (q : (Int32 × Int32)) => f_X12_wallsOf_L4 σ x1 q.1 q.2) n (y2l4, y3l4) = some t4 → zWk p l e ({ frames := 2, cells := 0, slots := 0, locals := 45 } : Room) s m args below meth c A (some (.int r)) (fun t => zG D aC A nl ad σ t t.heap ∧ True) H locs (F0 m 4 ls []) := by
      intro n
      induction n with
      | zero =>
        intro y2l4 y3l4 H locs ls hG hS hl hw
        exact (zwh_0 hw).elim
      | succ n ih4 =>
        intro y2l4 y3l4 H locs ls hG hS hl hw
        obtain ⟨rr4, hf, hk4⟩ := zwh_u hw
        have hf : f_X12_wallsOf_L4 σ x1 y2l4 y3l4 = some rr4 := hf
        unfold f_X12_wallsOf_L4 at hf
        have KJ92_4 : ∀ (y2b92 : Int32) (y3b92 : Int32)   (H : Heap) (locs : List Loc) (ls : Array Slot), zG D aC A nl ad σ s H → va_S A s.heap H locs → lv_has ls 7 [(0, .ref (ad 12 0 0)), (1, .int x1), (2, .int y2b92), (3, .int y3b92)] → (f_X12_wallsOf_B92_4 σ x1 y2b92 y3b92) = some rr4 → zWk p l e ({ frames := 2, cells := 0, slots := 0, locals := 45 } : Room) s m args below meth c A (some (.int r)) (fun t => zG D aC A nl ad σ t t.heap ∧ True) H locs (F0 m 92 ls []) := by
          intro y2b92 y3b92   H locs ls hG hS hl hf
          unfold f_X12_wallsOf_B92_4 at hf
          refine lv_iinc (v := (y3b92 + 1)) (lv' := [(3, .int (y3b92 + 1)), (0, .ref (ad 12 0 0)), (1, .int x1), (2, .int y2b92)]) hx hb dX12_wallsOf_92 hl (k := 3) rfl rfl (by decide) rfl (fun ls hl => ?_)
          refine lv_goto (tgt := 4) hx hb dX12_wallsOf_95 (by decide) ?_
          cases hf
          exact ih4 y2b92 (y3b92 + 1) H locs ls hG hS (lv_sub hl [1, 2, 3, 0] rfl) hk4
        refine lv_iload_n hx hb dX12_wallsOf_4 rfl (lv_at hl 3 rfl) ?_
        refine lv_sipush (v := 160) hx hb dX12_wallsOf_5 (by decide) ?_
        refine lv_icmp_ge (tgt := 98) hx hb dX12_wallsOf_8 (by decide) (fun c30 => ?_) (fun c30 => ?_)
        · have hf := zif_p c30 hf
          cases hf
          have hk4 : (y2l4 : Int32) = t4 := hk4
          have hf := hfo4
          rw [← hk4] at hf
          have hf : (some y2l4) = some r := hf
          refine lv_iload_n hx hb dX12_wallsOf_98 rfl (lv_at hl 2 rfl) ?_
          have hq := (Option.some.inj hf)
          subst hq
          exact z_iret S hG hS hlocks trivial hr dX12_wallsOf_99
        · have hf := zif_n c30 hf
          refine lv_iconst (v := 0) hx hb dX12_wallsOf_11 (by decide) ?_
          refine lv_istore (lv' := [(4, .int 0), (0, .ref (ad 12 0 0)), (1, .int x1), (2, .int y2l4), (3, .int y3l4)]) hx hb dX12_wallsOf_12 hl (by decide) rfl (fun ls hl => ?_)
          obtain ⟨t14, hw14, hfo14⟩ := zbi hf
          have KL14 : ∀ (n : Nat) (y2l14 : Int32) (y4l14 : Int32) (H : Heap) (locs : List Loc) (ls : Array Slot), zG D aC A nl ad σ s H → va_S A s.heap H locs → lv_has ls 7 [(0, .ref (ad 12 0 0)), (1, .int x1), (3, .int y3l4), (2, .int y2l14), (4, .int y4l14)] → zwh (fun (q : (Int32 × Int32)) => f_X12_wallsOf_L14 σ x1 y3l4 q.1 q.2) n (y2l14, y4l14) = some t14 → zWk p l e ({ frames := 2, cells := 0, slots := 0, locals := 45 } : Room) s m args below meth c A (some (.int r)) (fun t => zG D aC A nl ad σ t t.heap ∧ True) H locs (F0 m 14 ls []) := by
            intro n
            induction n with
            | zero =>
              intro y2l14 y4l14 H locs ls hG hS hl hw
              exact (zwh_0 hw).elim
            | succ n ih14 =>
              intro y2l14 y4l14 H locs ls hG hS hl hw
              obtain ⟨rr14, hf, hk14⟩ := zwh_u hw
              have hf : f_X12_wallsOf_L14 σ x1 y3l4 y2l14 y4l14 = some rr14 := hf
              unfold f_X12_wallsOf_L14 at hf
              have KJ86_14 : ∀ (y2b86 : Int32) (y4b86 : Int32)   (H : Heap) (locs : List Loc) (ls : Array Slot), zG D aC A nl ad σ s H → va_S A s.heap H locs → lv_has ls 7 [(0, .ref (ad 12 0 0)), (1, .int x1), (2, .int y2b86), (3, .int y3l4), (4, .int y4b86)] → (f_X12_wallsOf_B86_14 σ x1 y2b86 y3l4 y4b86) = some rr14 → zWk p l e ({ frames := 2, cells := 0, slots := 0, locals := 45 } : Room) s m args below meth c A (some (.int r)) (fun t => zG D aC A nl ad σ t t.heap ∧ True) H locs (F0 m 86 ls []) := by
                intro y2b86 y4b86   H locs ls hG hS hl hf
                unfold f_X12_wallsOf_B86_14 at hf
                refine lv_iinc (v := (y4b86 + 1)) (lv' := [(4, .int (y4b86 + 1)), (0, .ref (ad 12 0 0)), (1, .int x1), (2, .int y2b86), (3, .int y3l4)]) hx hb dX12_wallsOf_86 hl (k := 4) rfl rfl (by decide) rfl (fun ls hl => ?_)
                refine lv_goto (tgt := 14) hx hb dX12_wallsOf_89 (by decide) ?_
                cases hf
                exact ih14 y2b86 (y4b86 + 1) H locs ls hG hS (lv_sub hl [1, 2, 4, 3, 0] rfl) hk14
              have KJ83_14 : ∀ (y2b83 : Int32) (y4b83 : Int32)   (H : Heap) (locs : List Loc) (ls : Array Slot), zG D aC A nl ad σ s H → va_S A s.heap H locs → lv_has ls 7 [(0, .ref (ad 12 0 0)), (1, .int x1), (2, .int y2b83), (3, .int y3l4), (4, .int y4b83)] → (f_X12_wallsOf_B83_14 σ x1 y2b83 y3l4 y4b83) = some rr14 → zWk p l e ({ frames := 2, cells := 0, slots := 0, locals := 45 } : Room) s m args below meth c A (some (.int r)) (fun t => zG D aC A nl ad σ t t.heap ∧ True) H locs (F0 m 83 ls []) := by
                intro y2b83 y4b83   H locs ls hG hS hl hf
                unfold f_X12_wallsOf_B83_14 at hf
                refine lv_iinc (v := (y2b83 + 1)) (lv' := [(2, .int (y2b83 + 1)), (0, .ref (ad 12 0 0)), (1, .int x1), (3, .int y3l4), (4, .int y4b83)]) hx hb dX12_wallsOf_83 hl (k := 2) rfl rfl (by decide) rfl (fun ls hl => ?_)
                exact KJ86_14 (y2b83 + 1) y4b83 H locs ls hG hS (lv_sub hl [1, 2, 0, 3, 4] rfl) hf
              refine lv_iload hx hb dX12_wallsOf_14 (lv_at hl 4 rfl) ?_
              refine lv_iconst (v := 4) hx hb dX12_wallsOf_16 (by decide) ?_
              refine lv_icmp_ge (tgt := 92) hx hb dX12_wallsOf_17 (by decide) (fun c45 => ?_) (fun c45 => ?_)
              · have hf := zif_p c45 hf
                cases hf
                have hk14 : (y2l14 : Int32) = t14 := hk14
                have hf := hfo14
                rw [← hk14] at hf
                have hf : (f_X12_wallsOf_B92_4 σ x1 y2l14 y3l4) = some rr4 := hf
                exact KJ92_4 y2l14 y3l4 H locs ls hG hS (lv_sub hl [0, 1, 3, 2] rfl) hf
              · have hf := zif_n c45 hf
                refine lv_iload_n hx hb dX12_wallsOf_20 rfl (lv_at hl 2 rfl) ?_
                refine lv_iload hx hb dX12_wallsOf_21 (lv_at hl 4 rfl) ?_
                refine z_callS (n := 2) (rest := []) (st1 := [.int (f_X12_beside y3l4 y4l14)]) S hG hS hZ (fun _ _ h => h) (c_X12_beside l D aC zs A nl ad σ y3l4 y4l14 (f_X12_beside y3l4 y4l14) rfl) zw_910 zw_911 zw_5 zw_912 (by decide +kernel) ⟨rfl, rfl⟩ ⟨(Nat.le_of_ble_eq_true rfl), (Nat.le_of_ble_eq_true rfl)⟩ hl.1 rfl (by rfl) (by rfl) (Nat.le_of_ble_eq_true rfl) dX12_wallsOf_23 ⟨Nat.zero_le _, Nat.zero_le _⟩ (fun H locs hz46 hG hS => ?_)
                refine lv_istore (lv' := [(5, .int (f_X12_beside y3l4 y4l14)), (0, .ref (ad 12 0 0)), (1, .int x1), (3, .int y3l4), (2, .int y2l14), (4, .int y4l14)]) hx hb dX12_wallsOf_26 hl (by decide) rfl (fun ls hl => ?_)
                refine lv_aload_n hx hb dX12_wallsOf_28 rfl (lv_at hl 1 rfl) ?_
                refine lv_iload_n hx hb dX12_wallsOf_29 rfl (lv_at hl 2 rfl) ?_
                refine lv_iload_n hx hb dX12_wallsOf_30 rfl (lv_at hl 3 rfl) ?_
                obtain ⟨r47, er47, hf⟩ := zbi hf
                refine z_callV (n := 2) (rest := []) (st1 := [.int r47]) (c0 := 12) (i0 := 0) (hZ.2.1 (12, 0) (by decide)) (by rfl) S hG hS hZ (fun _ _ h => h) (c_X12_at l D aC zs A nl ad σ x1 y3l4 r47 er47) zw_899 zw_900 zw_901 zw_5 zw_902 (by decide +kernel) ⟨rfl, rfl⟩ ⟨(Nat.le_of_ble_eq_true rfl), (Nat.le_of_ble_eq_true rfl)⟩ hl.1 rfl (by rfl) (by rfl) (Nat.le_of_ble_eq_true rfl) dX12_wallsOf_31 ⟨Nat.zero_le _, Nat.zero_le _⟩ (fun H locs hz48 hG hS => ?_)
                refine lv_istore (lv' := [(6, .int r47), (5, .int (f_X12_beside y3l4 y4l14)), (0, .ref (ad 12 0 0)), (1, .int x1), (3, .int y3l4), (2, .int y2l14), (4, .int y4l14)]) hx hb dX12_wallsOf_34 hl (by decide) rfl (fun ls hl => ?_)
                refine lv_iload hx hb dX12_wallsOf_36 (lv_at hl 0 rfl) ?_
                refine lv_if_ne (tgt := 44) hx hb dX12_wallsOf_38 (by decide) (fun c49 => ?_) (fun c49 => ?_)
                · have hf := zif_n c49 hf
                  refine lv_iload hx hb dX12_wallsOf_44 (lv_at hl 1 rfl) ?_
                  refine lv_iconst (v := (-1)) hx hb dX12_wallsOf_46 (by decide) ?_
                  refine lv_icmp_eq (tgt := 83) hx hb dX12_wallsOf_47 (by decide) (fun c50 => ?_) (fun c50 => ?_)
                  · have hf := zif_p c50 hf
                    exact KJ83_14 y2l14 y4l14 H locs ls hG hS (lv_sub hl [2, 3, 5, 4, 6] rfl) hf
                  · have hf := zif_n c50 hf
                    refine lv_aload_n hx hb dX12_wallsOf_50 rfl (lv_at hl 2 rfl) ?_
                    refine lv_iload_n hx hb dX12_wallsOf_51 rfl (lv_at hl 3 rfl) ?_
                    refine lv_iload hx hb dX12_wallsOf_52 (lv_at hl 1 rfl) ?_
                    obtain ⟨r51, er51, hf⟩ := zbi hf
                    refine z_callV (n := 2) (rest := []) (st1 := [.int r51]) (c0 := 12) (i0 := 0) (hZ.2.1 (12, 0) (by decide)) (by rfl) S hG hS hZ (fun _ _ h => h) (c_X12_at l D aC zs A nl ad σ x1 (f_X12_beside y3l4 y4l14) r51 er51) zw_899 zw_900 zw_901 zw_5 zw_902 (by decide +kernel) ⟨rfl, rfl⟩ ⟨(Nat.le_of_ble_eq_true rfl), (Nat.le_of_ble_eq_true rfl)⟩ hl.1 rfl (by rfl) (by rfl) (Nat.le_of_ble_eq_true rfl) dX12_wallsOf_54 ⟨Nat.zero_le _, Nat.zero_le _⟩ (fun H locs hz52 hG hS => ?_)
                    refine lv_if_eq (tgt := 83) hx hb dX12_wallsOf_57 (by decide) (fun c53 => ?_) (fun c53 => ?_)
                    · have hf := zif_p c53 hf
                      exact KJ83_14 y2l14 y4l14 H locs ls hG hS (lv_sub hl [2, 3, 5, 4, 6] rfl) hf
                    · have hf := zif_n c53 hf
                      refine lv_aload_n hx hb dX12_wallsOf_60 rfl (lv_at hl 2 rfl) ?_
                      refine lv_iload_n hx hb dX12_wallsOf_61 rfl (lv_at hl 3 rfl) ?_
                      refine lv_iload hx hb dX12_wallsOf_62 (lv_at hl 1 rfl) ?_
                      obtain ⟨r54, er54, hf⟩ := zbi hf
                      refine z_callV (n := 2) (rest := []) (st1 := [.int r54]) (c0 := 12) (i0 := 0) (hZ.2.1 (12, 0) (by decide)) (by rfl) S hG hS hZ (fun _ _ h => h) (c_X12_at l D aC zs A nl ad σ x1 (f_X12_beside y3l4 y4l14) r54 er54) zw_899 zw_900 zw_901 zw_5 zw_902 (by decide +kernel) ⟨rfl, rfl⟩ ⟨(Nat.le_of_ble_eq_true rfl), (Nat.le_of_ble_eq_true rfl)⟩ hl.1 rfl (by rfl) (by rfl) (Nat.le_of_ble_eq_true rfl) dX12_wallsOf_64 ⟨Nat.zero_le _, Nat.zero_le _⟩ (fun H locs hz55 hG hS => ?_)
                      refine lv_iload hx hb dX12_wallsOf_67 (lv_at hl 0 rfl) ?_
                      refine lv_icmp_eq (tgt := 86) hx hb dX12_wallsOf_69 (by decide) (fun c56 => ?_) (fun c56 => ?_)
                      · have hf := zif_p c56 hf
                        exact KJ86_14 y2l14 y4l14 H locs ls hG hS (lv_sub hl [2, 3, 5, 4, 6] rfl) hf
                      · have hf := zif_n c56 hf
                        refine lv_iload hx hb dX12_wallsOf_72 (lv_at hl 6 rfl) ?_
                        refine lv_if_eq (tgt := 83) hx hb dX12_wallsOf_74 (by decide) (fun c57 => ?_) (fun c57 => ?_)
                        · have hf := zif_p c57 hf
                          exact KJ83_14 y2l14 y4l14 H locs ls hG hS (lv_sub hl [2, 3, 5, 4, 6] rfl) hf
                        · have hf := zif_n c57 hf
                          refine lv_iload hx hb dX12_wallsOf_77 (lv_at hl 6 rfl) ?_
                          refine lv_iconst (v := 3) hx hb dX12_wallsOf_79 (by decide) ?_
                          refine lv_icmp_ne (tgt := 86) hx hb dX12_wallsOf_80 (by decide) (fun c58 => ?_) (fun c58 => ?_)
                          · have hf := zif_n c58 hf
                            exact KJ86_14 y2l14 y4l14 H locs ls hG hS (lv_sub hl [2, 3, 5, 4, 6] rfl) hf
                          · have hf := zif_p c58 hf
                            exact KJ83_14 y2l14 y4l14 H locs ls hG hS (lv_sub hl [2, 3, 5, 4, 6] rfl) hf
                · have hf := zif_p c49 hf
                  refine lv_goto (tgt := 86) hx hb dX12_wallsOf_41 (by decide) ?_
                  exact KJ86_14 y2l14 y4l14 H locs ls hG hS (lv_sub hl [2, 3, 5, 4, 6] rfl) hf
          exact KL14 zFu y2l4 0 H locs ls hG hS (lv_sub hl [1, 2, 4, 3, 0] rfl) hw14
    exact KL4 zFu 0 0 H locs ls hG hS (lv_sub hl [2, 3, 1, 0] rfl) hw4
  exact hK0 _ _ ls hG hS hl hf
set_option maxRecDepth 100000 in
set_option maxHeartbeats 4000000 in
theorem c_X12_bare (l : Launch) (D : va_G) (aC : Nat → ClassId) (zs : Nat × Nat) (A : Nat → Prop) (nl : zNL) (ad : Nat → Nat → Nat → Nat) (σ : zM) (x0 : Int32) (r : Int32)  (hf : f_X12_bare x0 = r) : Met l yX12_bare (Cond.code yX12_bare cX12_bare 1 (some .int) :: wsL_law) ({ frames := 0, cells := 0, slots := 0, locals := 0 } : Room) (zP D aC zs zfM A nl ad σ [.int x0]) (zQ (some (.int r)) (fun t => zG D aC A nl ad σ t t.heap ∧ True) A) 0 0 A := by
  refine Met.ofW (cc := cX12_bare) (maxL := 1) (ret := (some .int)) (by decide) rfl ?_
  intro p e s m args below meth c s₁ B hml hv
  obtain ⟨rfl, hG, hZ⟩ := hv
  have hx := B.exec
  have hb := B.bytes
  have hr := B.returns
  have hts : ∀ w ∈ wsL_law, w.before ([.int x0] : List Value).toArray s = true := fun w h => (atoms_spec B.pre) w (List.mem_cons_of_mem _ h)
  have hown : s.vm.findClass RX12 = some m.cls := findClass_of_methodNamed B.named
  have hlocks := B.notSynchronized
  have S : zS p m c cX12_bare 1 s ([.int x0] : List Value).toArray RX12 := ⟨hx, hb, hml, hown, hts⟩
  have hS : va_S A s.heap s.heap [] := va_S.rf
  have hl := lv_entry ([.int x0]) (n := 1) (Nat.le_of_ble_eq_true rfl)
  rw [lg_entry_eq]
  generalize (lg_sl ([.int x0]) ++ List.replicate (1 - (lg_sl ([.int x0])).length) Slot.unset).toArray = ls at hl ⊢
  have hl : lv_has ls 1 [(0, .int x0)] := hl
  generalize hargs : ([.int x0] : List Value).toArray = args at S hts ⊢
  clear hargs
  have hK0 : ∀ (H : Heap) (locs : List Loc) (ls : Array Slot), zG D aC A nl ad σ s H → va_S A s.heap H locs → lv_has ls 1 [(0, .int x0)] → f_X12_bare x0 = r → zWk p l e ({ frames := 0, cells := 0, slots := 0, locals := 0 } : Room) s m args below meth c A (some (.int r)) (fun t => zG D aC A nl ad σ t t.heap ∧ True) H locs (F0 m 0 ls []) := by
    intro H locs ls hG hS hl hf
    unfold f_X12_bare at hf
    refine lv_iload_n hx hb dX12_bare_0 rfl (lv_at hl 0 rfl) ?_
    by_cases c1 : x0 = 0
    · have hf := zif_p c1 hf
      refine lv_tableIn (x := x0) (off := 55) (tgt := 56) hx hb dX12_bare_1 (by rw [c1]; decide) (by rw [c1]; decide) (by rw [c1]; decide) (by decide) ?_
      refine lv_bipush (v := 10) hx hb dX12_bare_56 (by decide) ?_
      have hq := hf
      subst hq
      exact z_iret S hG hS hlocks trivial hr dX12_bare_58
    · have hf := zif_n c1 hf
      by_cases c2 : x0 = 1
      · have hf := zif_p c2 hf
        refine lv_tableIn (x := x0) (off := 58) (tgt := 59) hx hb dX12_bare_1 (by rw [c2]; decide) (by rw [c2]; decide) (by rw [c2]; decide) (by decide) ?_
        refine lv_bipush (v := 50) hx hb dX12_bare_59 (by decide) ?_
        have hq := hf
        subst hq
        exact z_iret S hG hS hlocks trivial hr dX12_bare_61
      · have hf := zif_n c2 hf
        by_cases c3 : x0 = 2
        · have hf := zif_p c3 hf
          refine lv_tableIn (x := x0) (off := 61) (tgt := 62) hx hb dX12_bare_1 (by rw [c3]; decide) (by rw [c3]; decide) (by rw [c3]; decide) (by decide) ?_
          refine lv_sipush (v := 300) hx hb dX12_bare_62 (by decide) ?_
          have hq := hf
          subst hq
          exact z_iret S hG hS hlocks trivial hr dX12_bare_65
        · have hf := zif_n c3 hf
          by_cases c4 : x0 = 3
          · have hf := zif_p c4 hf
            refine lv_tableIn (x := x0) (off := 65) (tgt := 66) hx hb dX12_bare_1 (by rw [c4]; decide) (by rw [c4]; decide) (by rw [c4]; decide) (by decide) ?_
            refine lv_bipush (v := 10) hx hb dX12_bare_66 (by decide) ?_
            have hq := hf
            subst hq
            exact z_iret S hG hS hlocks trivial hr dX12_bare_68
          · have hf := zif_n c4 hf
            by_cases c5 : x0 = 4
            · have hf := zif_p c5 hf
              refine lv_tableIn (x := x0) (off := 68) (tgt := 69) hx hb dX12_bare_1 (by rw [c5]; decide) (by rw [c5]; decide) (by rw [c5]; decide) (by decide) ?_
              refine lv_sipush (v := 1000) hx hb dX12_bare_69 (by decide) ?_
              have hq := hf
              subst hq
              exact z_iret S hG hS hlocks trivial hr dX12_bare_72
            · have hf := zif_n c5 hf
              by_cases c6 : x0 = 5
              · have hf := zif_p c6 hf
                refine lv_tableIn (x := x0) (off := 72) (tgt := 73) hx hb dX12_bare_1 (by rw [c6]; decide) (by rw [c6]; decide) (by rw [c6]; decide) (by decide) ?_
                refine lv_iconst (v := 3) hx hb dX12_bare_73 (by decide) ?_
                have hq := hf
                subst hq
                exact z_iret S hG hS hlocks trivial hr dX12_bare_74
              · have hf := zif_n c6 hf
                by_cases c7 : x0 = 6
                · have hf := zif_p c7 hf
                  refine lv_tableIn (x := x0) (off := 74) (tgt := 75) hx hb dX12_bare_1 (by rw [c7]; decide) (by rw [c7]; decide) (by rw [c7]; decide) (by decide) ?_
                  refine lv_iconst (v := 0) hx hb dX12_bare_75 (by decide) ?_
                  have hq := hf
                  subst hq
                  exact z_iret S hG hS hlocks trivial hr dX12_bare_76
                · have hf := zif_n c7 hf
                  by_cases c8 : x0 = 7
                  · have hf := zif_p c8 hf
                    refine lv_tableIn (x := x0) (off := 76) (tgt := 77) hx hb dX12_bare_1 (by rw [c8]; decide) (by rw [c8]; decide) (by rw [c8]; decide) (by decide) ?_
                    refine lv_iconst (v := 1) hx hb dX12_bare_77 (by decide) ?_
                    have hq := hf
                    subst hq
                    exact z_iret S hG hS hlocks trivial hr dX12_bare_78
                  · have hf := zif_n c8 hf
                    by_cases c9 : x0 = 8
                    · have hf := zif_p c9 hf
                      refine lv_tableIn (x := x0) (off := 78) (tgt := 79) hx hb dX12_bare_1 (by rw [c9]; decide) (by rw [c9]; decide) (by rw [c9]; decide) (by decide) ?_
                      refine lv_bipush (v := 20) hx hb dX12_bare_79 (by decide) ?_
                      have hq := hf
                      subst hq
                      exact z_iret S hG hS hlocks trivial hr dX12_bare_81
                    · have hf := zif_n c9 hf
                      by_cases c10 : x0 = 9
                      · have hf := zif_p c10 hf
                        refine lv_tableIn (x := x0) (off := 81) (tgt := 82) hx hb dX12_bare_1 (by rw [c10]; decide) (by rw [c10]; decide) (by rw [c10]; decide) (by decide) ?_
                        refine lv_bipush (v := 30) hx hb dX12_bare_82 (by decide) ?_
                        have hq := hf
                        subst hq
                        exact z_iret S hG hS hlocks trivial hr dX12_bare_84
                      · have hf := zif_n c10 hf
                        have hout : x0.toInt < 0 ∨ 9 < x0.toInt := by
                          rcases (show x0.toInt < 0 ∨ 9 < x0.toInt ∨ x0.toInt = 0 ∨ x0.toInt = 1 ∨ x0.toInt = 2 ∨ x0.toInt = 3 ∨ x0.toInt = 4 ∨ x0.toInt = 5 ∨ x0.toInt = 6 ∨ x0.toInt = 7 ∨ x0.toInt = 8 ∨ x0.toInt = 9 by omega) with h | h | h | h | h | h | h | h | h | h | h | h
                          · exact Or.inl h
                          · exact Or.inr h
                          · exact absurd (Int32.toInt_inj.mp (h.trans (by decide : (0 : Int) = (0 : Int32).toInt))) c1
                          · exact absurd (Int32.toInt_inj.mp (h.trans (by decide : (1 : Int) = (1 : Int32).toInt))) c2
                          · exact absurd (Int32.toInt_inj.mp (h.trans (by decide : (2 : Int) = (2 : Int32).toInt))) c3
                          · exact absurd (Int32.toInt_inj.mp (h.trans (by decide : (3 : Int) = (3 : Int32).toInt))) c4
                          · exact absurd (Int32.toInt_inj.mp (h.trans (by decide : (4 : Int) = (4 : Int32).toInt))) c5
                          · exact absurd (Int32.toInt_inj.mp (h.trans (by decide : (5 : Int) = (5 : Int32).toInt))) c6
                          · exact absurd (Int32.toInt_inj.mp (h.trans (by decide : (6 : Int) = (6 : Int32).toInt))) c7
                          · exact absurd (Int32.toInt_inj.mp (h.trans (by decide : (7 : Int) = (7 : Int32).toInt))) c8
                          · exact absurd (Int32.toInt_inj.mp (h.trans (by decide : (8 : Int) = (8 : Int32).toInt))) c9
                          · exact absurd (Int32.toInt_inj.mp (h.trans (by decide : (9 : Int) = (9 : Int32).toInt))) c10
                        refine lv_tableOut (x := x0) (tgt := 85) hx hb dX12_bare_1 hout (by decide) ?_
                        refine lv_bipush (v := 50) hx hb dX12_bare_85 (by decide) ?_
                        have hq := hf
                        subst hq
                        exact z_iret S hG hS hlocks trivial hr dX12_bare_87
  exact hK0 _ _ ls hG hS hl hf
set_option maxRecDepth 100000 in
set_option maxHeartbeats 4000000 in
theorem c_X12_tells (l : Launch) (D : va_G) (aC : Nat → ClassId) (zs : Nat × Nat) (A : Nat → Prop) (nl : zNL) (ad : Nat → Nat → Nat → Nat) (σ : zM) (x1 : Int32) (x2 : Int32) (r : Int32)  (hf : f_X12_tells σ x1 x2 = some r) : Met l yX12_tells (Cond.code yX12_tells cX12_tells 5 (some .int) :: wsL_law) ({ frames := 1, cells := 0, slots := 0, locals := 20 } : Room) (zP D aC zs zfM A nl ad σ [.ref (ad 12 0 0), .int x1, .int x2]) (zQ (some (.int r)) (fun t => zG D aC A nl ad σ t t.heap ∧ True) A) 0 0 A := by
  refine Met.ofW (cc := cX12_tells) (maxL := 5) (ret := (some .int)) (by decide) rfl ?_
  intro p e s m args below meth c s₁ B hml hv
  obtain ⟨rfl, hG, hZ⟩ := hv
  have hx := B.exec
  have hb := B.bytes
  have hr := B.returns
  have hts : ∀ w ∈ wsL_law, w.before ([.ref (ad 12 0 0), .int x1, .int x2] : List Value).toArray s = true := fun w h => (atoms_spec B.pre) w (List.mem_cons_of_mem _ h)
  have hown : s.vm.findClass RX12 = some m.cls := findClass_of_methodNamed B.named
  have hlocks := B.notSynchronized
  have S : zS p m c cX12_tells 5 s ([.ref (ad 12 0 0), .int x1, .int x2] : List Value).toArray RX12 := ⟨hx, hb, hml, hown, hts⟩
  have hS : va_S A s.heap s.heap [] := va_S.rf
  have hl := lv_entry ([.ref (ad 12 0 0), .int x1, .int x2]) (n := 5) (Nat.le_of_ble_eq_true rfl)
  rw [lg_entry_eq]
  generalize (lg_sl ([.ref (ad 12 0 0), .int x1, .int x2]) ++ List.replicate (5 - (lg_sl ([.ref (ad 12 0 0), .int x1, .int x2])).length) Slot.unset).toArray = ls at hl ⊢
  have hl : lv_has ls 5 [(0, .ref (ad 12 0 0)), (1, .int x1), (2, .int x2)] := hl
  generalize hargs : ([.ref (ad 12 0 0), .int x1, .int x2] : List Value).toArray = args at S hts ⊢
  clear hargs
  have hK0 : ∀ (H : Heap) (locs : List Loc) (ls : Array Slot), zG D aC A nl ad σ s H → va_S A s.heap H locs → lv_has ls 5 [(0, .ref (ad 12 0 0)), (1, .int x1), (2, .int x2)] → f_X12_tells σ x1 x2 = some r → zWk p l e ({ frames := 1, cells := 0, slots := 0, locals := 20 } : Room) s m args below meth c A (some (.int r)) (fun t => zG D aC A nl ad σ t t.heap ∧ True) H locs (F0 m 0 ls []) := by
    intro H locs ls hG hS hl hf
    unfold f_X12_tells at hf
    refine lv_iload_n hx hb dX12_tells_0 rfl (lv_at hl 2 rfl) ?_
    refine z_callS (n := 1) (rest := []) (st1 := [.int (f_X12_bare x2)]) S hG hS hZ (fun _ _ h => h) (c_X12_bare l D aC zs A nl ad σ x2 (f_X12_bare x2) rfl) zw_728 zw_729 zw_5 zw_730 (by decide +kernel) ⟨rfl, rfl⟩ ⟨(Nat.le_of_ble_eq_true rfl), (Nat.le_of_ble_eq_true rfl)⟩ hl.1 rfl (by rfl) (by rfl) (Nat.le_of_ble_eq_true rfl) dX12_tells_1 ⟨Nat.zero_le _, Nat.zero_le _⟩ (fun H locs hz1 hG hS => ?_)
    refine lv_istore_n (lv' := [(3, .int (f_X12_bare x2)), (0, .ref (ad 12 0 0)), (1, .int x1), (2, .int x2)]) hx hb dX12_tells_4 rfl hl (by decide) rfl (fun ls hl => ?_)
    refine lv_bipush (v := 40) hx hb dX12_tells_5 (by decide) ?_
    refine lv_iload_n hx hb dX12_tells_7 rfl (lv_at hl 2 rfl) ?_
    refine lv_imul hx hb dX12_tells_8 ?_
    refine lv_istore (lv' := [(4, .int (40 * x1)), (3, .int (f_X12_bare x2)), (0, .ref (ad 12 0 0)), (1, .int x1), (2, .int x2)]) hx hb dX12_tells_9 hl (by decide) rfl (fun ls hl => ?_)
    obtain ⟨t11, hw11, hfo11⟩ := zbi hf
    have KL11 : ∀ (n : Nat) (y3l11 : Int32) (y4l11 : Int32) (H : Heap) (locs : List Loc) (ls : Array Slot), zG D aC A nl ad σ s H → va_S A s.heap H locs → lv_has ls 5 [(0, .ref (ad 12 0 0)), (1, .int x1), (2, .int x2), (3, .int y3l11), (4, .int y4l11)] → zwh (fun (q : (Int32 × Int32)) => f_X12_tells_L11 σ x1 x2 q.1 q.2) n (y3l11, y4l11) = some t11 → zWk p l e ({ frames := 1, cells := 0, slots := 0, locals := 20 } : Room) s m args below meth c A (some (.int r)) (fun t => zG D aC A nl ad σ t t.heap ∧ True) H locs (F0 m 11 ls []) := by
      intro n
      induction n with
      | zero =>
        intro y3l11 y4l11 H locs ls hG hS hl hw
        exact (zwh_0 hw).elim
      | succ n ih11 =>
        intro y3l11 y4l11 H locs ls hG hS hl hw
        obtain ⟨rr11, hf, hk11⟩ := zwh_u hw
        have hf : f_X12_tells_L11 σ x1 x2 y3l11 y4l11 = some rr11 := hf
        unfold f_X12_tells_L11 at hf
        have KJ139_11 : ∀ (y3b139 : Int32) (y4b139 : Int32)   (H : Heap) (locs : List Loc) (ls : Array Slot), zG D aC A nl ad σ s H → va_S A s.heap H locs → lv_has ls 5 [(0, .ref (ad 12 0 0)), (1, .int x1), (2, .int x2), (3, .int y3b139), (4, .int y4b139)] → (f_X12_tells_B139_11 σ x1 x2 y3b139 y4b139) = some rr11 → zWk p l e ({ frames := 1, cells := 0, slots := 0, locals := 20 } : Room) s m args below meth c A (some (.int r)) (fun t => zG D aC A nl ad σ t t.heap ∧ True) H locs (F0 m 139 ls []) := by
          intro y3b139 y4b139   H locs ls hG hS hl hf
          unfold f_X12_tells_B139_11 at hf
          refine lv_iinc (v := (y4b139 + 1)) (lv' := [(4, .int (y4b139 + 1)), (0, .ref (ad 12 0 0)), (1, .int x1), (2, .int x2), (3, .int y3b139)]) hx hb dX12_tells_139 hl (k := 4) rfl rfl (by decide) rfl (fun ls hl => ?_)
          refine lv_goto (tgt := 11) hx hb dX12_tells_142 (by decide) ?_
          cases hf
          exact ih11 y3b139 (y4b139 + 1) H locs ls hG hS (lv_sub hl [1, 2, 3, 4, 0] rfl) hk11
        have KJ113_11 : ∀ (y3b113 : Int32) (y4b113 : Int32)   (H : Heap) (locs : List Loc) (ls : Array Slot), zG D aC A nl ad σ s H → va_S A s.heap H locs → lv_has ls 5 [(0, .ref (ad 12 0 0)), (1, .int x1), (2, .int x2), (3, .int y3b113), (4, .int y4b113)] → (f_X12_tells_B113_11 σ x1 x2 y3b113 y4b113) = some rr11 → zWk p l e ({ frames := 1, cells := 0, slots := 0, locals := 20 } : Room) s m args below meth c A (some (.int r)) (fun t => zG D aC A nl ad σ t t.heap ∧ True) H locs (F0 m 113 ls []) := by
          intro y3b113 y4b113   H locs ls hG hS hl hf
          unfold f_X12_tells_B113_11 at hf
          refine lv_aload_n hx hb dX12_tells_113 rfl (lv_at hl 0 rfl) ?_
          refine z_get (c0 := 12) (i0 := 0) (k0 := 27) (T := TX12) (v := .ref (ad 12 0 28)) S hG (hZ.2.1 (12, 0) (by decide)) rfl inlX12 (by decide) rfl zw_239 rfl dX12_tells_114 ?_
          refine lv_iload hx hb dX12_tells_117 (lv_at hl 4 rfl) ?_
          obtain ⟨i31, hi31, hf⟩ := zbi hf
          refine z_iald (c0 := 12) (i0 := 0) (k0 := 27) S hG (hZ.2.1 (12, 0) (by decide)) (by decide) rfl hi31 dX12_tells_119 ?_
          refine lv_bipush (v := 8) hx hb dX12_tells_120 (by decide) ?_
          refine lv_icmp_ne (tgt := 139) hx hb dX12_tells_122 (by decide) (fun c32 => ?_) (fun c32 => ?_)
          · have hf := zif_n c32 hf
            exact KJ139_11 y3b113 y4b113 H locs ls hG hS (lv_sub hl [0, 1, 2, 3, 4] rfl) hf
          · have hf := zif_p c32 hf
            refine lv_iload_n hx hb dX12_tells_125 rfl (lv_at hl 2 rfl) ?_
            refine lv_bipush (v := 10) hx hb dX12_tells_126 (by decide) ?_
            refine lv_icmp_ne (tgt := 139) hx hb dX12_tells_128 (by decide) (fun c33 => ?_) (fun c33 => ?_)
            · have hf := zif_n c33 hf
              exact KJ139_11 y3b113 y4b113 H locs ls hG hS (lv_sub hl [0, 1, 2, 3, 4] rfl) hf
            · have hf := zif_p c33 hf
              refine lv_aload_n hx hb dX12_tells_131 rfl (lv_at hl 0 rfl) ?_
              refine z_get (c0 := 12) (i0 := 0) (k0 := 30) (T := TX12) (v := .ref (ad 12 0 31)) S hG (hZ.2.1 (12, 0) (by decide)) rfl inlX12 (by decide) rfl zw_242 rfl dX12_tells_132 ?_
              refine lv_iload hx hb dX12_tells_135 (lv_at hl 4 rfl) ?_
              obtain ⟨i34, hi34, hf⟩ := zbi hf
              refine z_iald (c0 := 12) (i0 := 0) (k0 := 30) S hG (hZ.2.1 (12, 0) (by decide)) (by decide) rfl hi34 dX12_tells_137 ?_
              refine lv_istore_n (lv' := [(3, .int (zA σ 12 0 30 i34)), (0, .ref (ad 12 0 0)), (1, .int x1), (2, .int x2), (4, .int y4b113)]) hx hb dX12_tells_138 rfl hl (by decide) rfl (fun ls hl => ?_)
              exact KJ139_11 (zA σ 12 0 30 i34) y4b113 H locs ls hG hS (lv_sub hl [1, 2, 3, 0, 4] rfl) hf
        have KJ87_11 : ∀ (y3b87 : Int32) (y4b87 : Int32)   (H : Heap) (locs : List Loc) (ls : Array Slot), zG D aC A nl ad σ s H → va_S A s.heap H locs → lv_has ls 5 [(0, .ref (ad 12 0 0)), (1, .int x1), (2, .int x2), (3, .int y3b87), (4, .int y4b87)] → (f_X12_tells_B87_11 σ x1 x2 y3b87 y4b87) = some rr11 → zWk p l e ({ frames := 1, cells := 0, slots := 0, locals := 20 } : Room) s m args below meth c A (some (.int r)) (fun t => zG D aC A nl ad σ t t.heap ∧ True) H locs (F0 m 87 ls []) := by
          intro y3b87 y4b87   H locs ls hG hS hl hf
          unfold f_X12_tells_B87_11 at hf
          refine lv_aload_n hx hb dX12_tells_87 rfl (lv_at hl 0 rfl) ?_
          refine z_get (c0 := 12) (i0 := 0) (k0 := 27) (T := TX12) (v := .ref (ad 12 0 28)) S hG (hZ.2.1 (12, 0) (by decide)) rfl inlX12 (by decide) rfl zw_239 rfl dX12_tells_88 ?_
          refine lv_iload hx hb dX12_tells_91 (lv_at hl 4 rfl) ?_
          obtain ⟨i29, hi29, hf⟩ := zbi hf
          refine z_iald (c0 := 12) (i0 := 0) (k0 := 27) S hG (hZ.2.1 (12, 0) (by decide)) (by decide) rfl hi29 dX12_tells_93 ?_
          refine lv_bipush (v := 8) hx hb dX12_tells_94 (by decide) ?_
          refine lv_icmp_ne (tgt := 113) hx hb dX12_tells_96 (by decide) (fun c30 => ?_) (fun c30 => ?_)
          · have hf := zif_n c30 hf
            exact KJ113_11 y3b87 y4b87 H locs ls hG hS (lv_sub hl [0, 1, 2, 3, 4] rfl) hf
          · have hf := zif_p c30 hf
            refine lv_iload_n hx hb dX12_tells_99 rfl (lv_at hl 2 rfl) ?_
            refine lv_bipush (v := 9) hx hb dX12_tells_100 (by decide) ?_
            refine lv_icmp_ne (tgt := 113) hx hb dX12_tells_102 (by decide) (fun c35 => ?_) (fun c35 => ?_)
            · have hf := zif_n c35 hf
              exact KJ113_11 y3b87 y4b87 H locs ls hG hS (lv_sub hl [0, 1, 2, 3, 4] rfl) hf
            · have hf := zif_p c35 hf
              refine lv_aload_n hx hb dX12_tells_105 rfl (lv_at hl 0 rfl) ?_
              refine z_get (c0 := 12) (i0 := 0) (k0 := 29) (T := TX12) (v := .ref (ad 12 0 30)) S hG (hZ.2.1 (12, 0) (by decide)) rfl inlX12 (by decide) rfl zw_241 rfl dX12_tells_106 ?_
              refine lv_iload hx hb dX12_tells_109 (lv_at hl 4 rfl) ?_
              obtain ⟨i36, hi36, hf⟩ := zbi hf
              refine z_iald (c0 := 12) (i0 := 0) (k0 := 29) S hG (hZ.2.1 (12, 0) (by decide)) (by decide) rfl hi36 dX12_tells_111 ?_
              refine lv_istore_n (lv' := [(3, .int (zA σ 12 0 29 i36)), (0, .ref (ad 12 0 0)), (1, .int x1), (2, .int x2), (4, .int y4b87)]) hx hb dX12_tells_112 rfl hl (by decide) rfl (fun ls hl => ?_)
              exact KJ113_11 (zA σ 12 0 29 i36) y4b87 H locs ls hG hS (lv_sub hl [1, 2, 3, 0, 4] rfl) hf
        have KJ51_11 : ∀ (y3b51 : Int32) (y4b51 : Int32)   (H : Heap) (locs : List Loc) (ls : Array Slot), zG D aC A nl ad σ s H → va_S A s.heap H locs → lv_has ls 5 [(0, .ref (ad 12 0 0)), (1, .int x1), (2, .int x2), (3, .int y3b51), (4, .int y4b51)] → (f_X12_tells_B51_11 σ x1 x2 y3b51 y4b51) = some rr11 → zWk p l e ({ frames := 1, cells := 0, slots := 0, locals := 20 } : Room) s m args below meth c A (some (.int r)) (fun t => zG D aC A nl ad σ t t.heap ∧ True) H locs (F0 m 51 ls []) := by
          intro y3b51 y4b51   H locs ls hG hS hl hf
          unfold f_X12_tells_B51_11 at hf
          refine lv_aload_n hx hb dX12_tells_51 rfl (lv_at hl 0 rfl) ?_
          refine z_get (c0 := 12) (i0 := 0) (k0 := 27) (T := TX12) (v := .ref (ad 12 0 28)) S hG (hZ.2.1 (12, 0) (by decide)) rfl inlX12 (by decide) rfl zw_239 rfl dX12_tells_52 ?_
          refine lv_iload hx hb dX12_tells_55 (lv_at hl 4 rfl) ?_
          obtain ⟨i27, hi27, hf⟩ := zbi hf
          refine z_iald (c0 := 12) (i0 := 0) (k0 := 27) S hG (hZ.2.1 (12, 0) (by decide)) (by decide) rfl hi27 dX12_tells_57 ?_
          refine lv_bipush (v := 15) hx hb dX12_tells_58 (by decide) ?_
          refine lv_icmp_ne (tgt := 87) hx hb dX12_tells_60 (by decide) (fun c28 => ?_) (fun c28 => ?_)
          · have hf := zif_n c28 hf
            exact KJ87_11 y3b51 y4b51 H locs ls hG hS (lv_sub hl [0, 1, 2, 3, 4] rfl) hf
          · have hf := zif_p c28 hf
            refine lv_iload_n hx hb dX12_tells_63 rfl (lv_at hl 2 rfl) ?_
            refine lv_iconst (v := 3) hx hb dX12_tells_64 (by decide) ?_
            refine lv_icmp_ne (tgt := 87) hx hb dX12_tells_65 (by decide) (fun c37 => ?_) (fun c37 => ?_)
            · have hf := zif_n c37 hf
              exact KJ87_11 y3b51 y4b51 H locs ls hG hS (lv_sub hl [0, 1, 2, 3, 4] rfl) hf
            · have hf := zif_p c37 hf
              refine lv_aload_n hx hb dX12_tells_68 rfl (lv_at hl 0 rfl) ?_
              refine z_get (c0 := 12) (i0 := 0) (k0 := 29) (T := TX12) (v := .ref (ad 12 0 30)) S hG (hZ.2.1 (12, 0) (by decide)) rfl inlX12 (by decide) rfl zw_241 rfl dX12_tells_69 ?_
              refine lv_iload hx hb dX12_tells_72 (lv_at hl 4 rfl) ?_
              obtain ⟨i38, hi38, hf⟩ := zbi hf
              refine z_iald (c0 := 12) (i0 := 0) (k0 := 29) S hG (hZ.2.1 (12, 0) (by decide)) (by decide) rfl hi38 dX12_tells_74 ?_
              refine lv_iconst (v := (-1)) hx hb dX12_tells_75 (by decide) ?_
              refine lv_icmp_eq (tgt := 87) hx hb dX12_tells_76 (by decide) (fun c39 => ?_) (fun c39 => ?_)
              · have hf := zif_p c39 hf
                exact KJ87_11 y3b51 y4b51 H locs ls hG hS (lv_sub hl [0, 1, 2, 3, 4] rfl) hf
              · have hf := zif_n c39 hf
                refine lv_aload_n hx hb dX12_tells_79 rfl (lv_at hl 0 rfl) ?_
                refine z_get (c0 := 12) (i0 := 0) (k0 := 29) (T := TX12) (v := .ref (ad 12 0 30)) S hG (hZ.2.1 (12, 0) (by decide)) rfl inlX12 (by decide) rfl zw_241 rfl dX12_tells_80 ?_
                refine lv_iload hx hb dX12_tells_83 (lv_at hl 4 rfl) ?_
                obtain ⟨i40, hi40, hf⟩ := zbi hf
                refine z_iald (c0 := 12) (i0 := 0) (k0 := 29) S hG (hZ.2.1 (12, 0) (by decide)) (by decide) rfl hi40 dX12_tells_85 ?_
                refine lv_istore_n (lv' := [(3, .int (zA σ 12 0 29 i40)), (0, .ref (ad 12 0 0)), (1, .int x1), (2, .int x2), (4, .int y4b51)]) hx hb dX12_tells_86 rfl hl (by decide) rfl (fun ls hl => ?_)
                exact KJ87_11 (zA σ 12 0 29 i40) y4b51 H locs ls hG hS (lv_sub hl [1, 2, 3, 0, 4] rfl) hf
        refine lv_iload_n hx hb dX12_tells_11 rfl (lv_at hl 1 rfl) ?_
        refine lv_iconst (v := (-1)) hx hb dX12_tells_12 (by decide) ?_
        refine lv_icmp_eq (tgt := 145) hx hb dX12_tells_13 (by decide) (fun c22 => ?_) (fun c22 => ?_)
        · have hf := zif_p c22 hf
          cases hf
          have hk11 : (y3l11 : Int32) = t11 := hk11
          have hf := hfo11
          rw [← hk11] at hf
          have hf : (some y3l11) = some r := hf
          refine lv_iload_n hx hb dX12_tells_145 rfl (lv_at hl 3 rfl) ?_
          have hq := (Option.some.inj hf)
          subst hq
          exact z_iret S hG hS hlocks trivial hr dX12_tells_146
        · have hf := zif_n c22 hf
          refine lv_iload hx hb dX12_tells_16 (lv_at hl 4 rfl) ?_
          refine lv_bipush (v := 40) hx hb dX12_tells_18 (by decide) ?_
          refine lv_iload_n hx hb dX12_tells_20 rfl (lv_at hl 1 rfl) ?_
          refine lv_imul hx hb dX12_tells_21 ?_
          refine lv_aload_n hx hb dX12_tells_22 rfl (lv_at hl 0 rfl) ?_
          refine z_get (c0 := 12) (i0 := 0) (k0 := 25) (T := TX12) (v := .ref (ad 12 0 26)) S hG (hZ.2.1 (12, 0) (by decide)) rfl inlX12 (by decide) rfl zw_237 rfl dX12_tells_23 ?_
          refine lv_iload_n hx hb dX12_tells_26 rfl (lv_at hl 1 rfl) ?_
          obtain ⟨i23, hi23, hf⟩ := zbi hf
          refine z_iald (c0 := 12) (i0 := 0) (k0 := 25) S hG (hZ.2.1 (12, 0) (by decide)) (by decide) rfl hi23 dX12_tells_27 ?_
          refine lv_iadd hx hb dX12_tells_28 ?_
          refine lv_icmp_ge (tgt := 145) hx hb dX12_tells_29 (by decide) (fun c24 => ?_) (fun c24 => ?_)
          · have hf := zif_p c24 hf
            cases hf
            have hk11 : (y3l11 : Int32) = t11 := hk11
            have hf := hfo11
            rw [← hk11] at hf
            have hf : (some y3l11) = some r := hf
            refine lv_iload_n hx hb dX12_tells_145 rfl (lv_at hl 3 rfl) ?_
            have hq := (Option.some.inj hf)
            subst hq
            exact z_iret S hG hS hlocks trivial hr dX12_tells_146
          · have hf := zif_n c24 hf
            refine lv_aload_n hx hb dX12_tells_32 rfl (lv_at hl 0 rfl) ?_
            refine z_get (c0 := 12) (i0 := 0) (k0 := 27) (T := TX12) (v := .ref (ad 12 0 28)) S hG (hZ.2.1 (12, 0) (by decide)) rfl inlX12 (by decide) rfl zw_239 rfl dX12_tells_33 ?_
            refine lv_iload hx hb dX12_tells_36 (lv_at hl 4 rfl) ?_
            obtain ⟨i25, hi25, hf⟩ := zbi hf
            refine z_iald (c0 := 12) (i0 := 0) (k0 := 27) S hG (hZ.2.1 (12, 0) (by decide)) (by decide) rfl hi25 dX12_tells_38 ?_
            refine lv_iload_n hx hb dX12_tells_39 rfl (lv_at hl 2 rfl) ?_
            refine lv_icmp_ne (tgt := 51) hx hb dX12_tells_40 (by decide) (fun c26 => ?_) (fun c26 => ?_)
            · have hf := zif_n c26 hf
              exact KJ51_11 y3l11 y4l11 H locs ls hG hS (lv_sub hl [0, 1, 2, 3, 4] rfl) hf
            · have hf := zif_p c26 hf
              refine lv_aload_n hx hb dX12_tells_43 rfl (lv_at hl 0 rfl) ?_
              refine z_get (c0 := 12) (i0 := 0) (k0 := 28) (T := TX12) (v := .ref (ad 12 0 29)) S hG (hZ.2.1 (12, 0) (by decide)) rfl inlX12 (by decide) rfl zw_240 rfl dX12_tells_44 ?_
              refine lv_iload hx hb dX12_tells_47 (lv_at hl 4 rfl) ?_
              obtain ⟨i41, hi41, hf⟩ := zbi hf
              refine z_iald (c0 := 12) (i0 := 0) (k0 := 28) S hG (hZ.2.1 (12, 0) (by decide)) (by decide) rfl hi41 dX12_tells_49 ?_
              refine lv_istore_n (lv' := [(3, .int (zA σ 12 0 28 i41)), (0, .ref (ad 12 0 0)), (1, .int x1), (2, .int x2), (4, .int y4l11)]) hx hb dX12_tells_50 rfl hl (by decide) rfl (fun ls hl => ?_)
              exact KJ51_11 (zA σ 12 0 28 i41) y4l11 H locs ls hG hS (lv_sub hl [1, 2, 3, 0, 4] rfl) hf
    exact KL11 zFu (f_X12_bare x2) (40 * x1) H locs ls hG hS (lv_sub hl [2, 3, 4, 1, 0] rfl) hw11
  exact hK0 _ _ ls hG hS hl hf
set_option maxRecDepth 100000 in
set_option maxHeartbeats 4000000 in
theorem c_X12_rate (l : Launch) (D : va_G) (aC : Nat → ClassId) (zs : Nat × Nat) (A : Nat → Prop) (nl : zNL) (ad : Nat → Nat → Nat → Nat) (σ : zM) (x1 : Int32) (x2 : Int32) (r : Int32)  (hf : f_X12_rate σ x1 x2 = some r) : Met l yX12_rate (Cond.code yX12_rate cX12_rate 5 (some .int) :: wsL_law) ({ frames := 0, cells := 0, slots := 0, locals := 0 } : Room) (zP D aC zs zfM A nl ad σ [.ref (ad 12 0 0), .int x1, .int x2]) (zQ (some (.int r)) (fun t => zG D aC A nl ad σ t t.heap ∧ True) A) 0 0 A := by
  refine Met.ofW (cc := cX12_rate) (maxL := 5) (ret := (some .int)) (by decide) rfl ?_
  intro p e s m args below meth c s₁ B hml hv
  obtain ⟨rfl, hG, hZ⟩ := hv
  have hx := B.exec
  have hb := B.bytes
  have hr := B.returns
  have hts : ∀ w ∈ wsL_law, w.before ([.ref (ad 12 0 0), .int x1, .int x2] : List Value).toArray s = true := fun w h => (atoms_spec B.pre) w (List.mem_cons_of_mem _ h)
  have hown : s.vm.findClass RX12 = some m.cls := findClass_of_methodNamed B.named
  have hlocks := B.notSynchronized
  have S : zS p m c cX12_rate 5 s ([.ref (ad 12 0 0), .int x1, .int x2] : List Value).toArray RX12 := ⟨hx, hb, hml, hown, hts⟩
  have hS : va_S A s.heap s.heap [] := va_S.rf
  have hl := lv_entry ([.ref (ad 12 0 0), .int x1, .int x2]) (n := 5) (Nat.le_of_ble_eq_true rfl)
  rw [lg_entry_eq]
  generalize (lg_sl ([.ref (ad 12 0 0), .int x1, .int x2]) ++ List.replicate (5 - (lg_sl ([.ref (ad 12 0 0), .int x1, .int x2])).length) Slot.unset).toArray = ls at hl ⊢
  have hl : lv_has ls 5 [(0, .ref (ad 12 0 0)), (1, .int x1), (2, .int x2)] := hl
  generalize hargs : ([.ref (ad 12 0 0), .int x1, .int x2] : List Value).toArray = args at S hts ⊢
  clear hargs
  have hK0 : ∀ (H : Heap) (locs : List Loc) (ls : Array Slot), zG D aC A nl ad σ s H → va_S A s.heap H locs → lv_has ls 5 [(0, .ref (ad 12 0 0)), (1, .int x1), (2, .int x2)] → f_X12_rate σ x1 x2 = some r → zWk p l e ({ frames := 0, cells := 0, slots := 0, locals := 0 } : Room) s m args below meth c A (some (.int r)) (fun t => zG D aC A nl ad σ t t.heap ∧ True) H locs (F0 m 0 ls []) := by
    intro H locs ls hG hS hl hf
    unfold f_X12_rate at hf
    refine lv_bipush (v := 100) hx hb dX12_rate_0 (by decide) ?_
    refine lv_istore_n (lv' := [(3, .int 100), (0, .ref (ad 12 0 0)), (1, .int x1), (2, .int x2)]) hx hb dX12_rate_2 rfl hl (by decide) rfl (fun ls hl => ?_)
    refine lv_bipush (v := 40) hx hb dX12_rate_3 (by decide) ?_
    refine lv_iload_n hx hb dX12_rate_5 rfl (lv_at hl 2 rfl) ?_
    refine lv_imul hx hb dX12_rate_6 ?_
    refine lv_istore (lv' := [(4, .int (40 * x1)), (3, .int 100), (0, .ref (ad 12 0 0)), (1, .int x1), (2, .int x2)]) hx hb dX12_rate_7 hl (by decide) rfl (fun ls hl => ?_)
    obtain ⟨t9, hw9, hfo9⟩ := zbi hf
    have KL9 : ∀ (n : Nat) (y3l9 : Int32) (y4l9 : Int32) (H : Heap) (locs : List Loc) (ls : Array Slot), zG D aC A nl ad σ s H → va_S A s.heap H locs → lv_has ls 5 [(0, .ref (ad 12 0 0)), (1, .int x1), (2, .int x2), (3, .int y3l9), (4, .int y4l9)] → zwh (fun (q : (Int32 × Int32)) => f_X12_rate_L9 σ x1 x2 q.1 q.2) n (y3l9, y4l9) = some t9 → zWk p l e ({ frames := 0, cells := 0, slots := 0, locals := 0 } : Room) s m args below meth c A (some (.int r)) (fun t => zG D aC A nl ad σ t t.heap ∧ True) H locs (F0 m 9 ls []) := by
      intro n
      induction n with
      | zero =>
        intro y3l9 y4l9 H locs ls hG hS hl hw
        exact (zwh_0 hw).elim
      | succ n ih9 =>
        intro y3l9 y4l9 H locs ls hG hS hl hw
        obtain ⟨rr9, hf, hk9⟩ := zwh_u hw
        have hf : f_X12_rate_L9 σ x1 x2 y3l9 y4l9 = some rr9 := hf
        unfold f_X12_rate_L9 at hf
        have KJ61_9 : ∀ (y3b61 : Int32) (y4b61 : Int32)   (H : Heap) (locs : List Loc) (ls : Array Slot), zG D aC A nl ad σ s H → va_S A s.heap H locs → lv_has ls 5 [(0, .ref (ad 12 0 0)), (1, .int x1), (2, .int x2), (3, .int y3b61), (4, .int y4b61)] → (f_X12_rate_B61_9 σ x1 x2 y3b61 y4b61) = some rr9 → zWk p l e ({ frames := 0, cells := 0, slots := 0, locals := 0 } : Room) s m args below meth c A (some (.int r)) (fun t => zG D aC A nl ad σ t t.heap ∧ True) H locs (F0 m 61 ls []) := by
          intro y3b61 y4b61   H locs ls hG hS hl hf
          unfold f_X12_rate_B61_9 at hf
          refine lv_iinc (v := (y4b61 + 1)) (lv' := [(4, .int (y4b61 + 1)), (0, .ref (ad 12 0 0)), (1, .int x1), (2, .int x2), (3, .int y3b61)]) hx hb dX12_rate_61 hl (k := 4) rfl rfl (by decide) rfl (fun ls hl => ?_)
          refine lv_goto (tgt := 9) hx hb dX12_rate_64 (by decide) ?_
          cases hf
          exact ih9 y3b61 (y4b61 + 1) H locs ls hG hS (lv_sub hl [1, 2, 3, 4, 0] rfl) hk9
        refine lv_iload_n hx hb dX12_rate_9 rfl (lv_at hl 1 rfl) ?_
        refine lv_iconst (v := (-1)) hx hb dX12_rate_10 (by decide) ?_
        refine lv_icmp_eq (tgt := 67) hx hb dX12_rate_11 (by decide) (fun c9 => ?_) (fun c9 => ?_)
        · have hf := zif_p c9 hf
          cases hf
          have hk9 : (y3l9 : Int32) = t9 := hk9
          have hf := hfo9
          rw [← hk9] at hf
          have hf : (some y3l9) = some r := hf
          refine lv_iload_n hx hb dX12_rate_67 rfl (lv_at hl 3 rfl) ?_
          have hq := (Option.some.inj hf)
          subst hq
          exact z_iret S hG hS hlocks trivial hr dX12_rate_68
        · have hf := zif_n c9 hf
          refine lv_iload hx hb dX12_rate_14 (lv_at hl 4 rfl) ?_
          refine lv_bipush (v := 40) hx hb dX12_rate_16 (by decide) ?_
          refine lv_iload_n hx hb dX12_rate_18 rfl (lv_at hl 1 rfl) ?_
          refine lv_imul hx hb dX12_rate_19 ?_
          refine lv_aload_n hx hb dX12_rate_20 rfl (lv_at hl 0 rfl) ?_
          refine z_get (c0 := 12) (i0 := 0) (k0 := 25) (T := TX12) (v := .ref (ad 12 0 26)) S hG (hZ.2.1 (12, 0) (by decide)) rfl inlX12 (by decide) rfl zw_237 rfl dX12_rate_21 ?_
          refine lv_iload_n hx hb dX12_rate_24 rfl (lv_at hl 1 rfl) ?_
          obtain ⟨i10, hi10, hf⟩ := zbi hf
          refine z_iald (c0 := 12) (i0 := 0) (k0 := 25) S hG (hZ.2.1 (12, 0) (by decide)) (by decide) rfl hi10 dX12_rate_25 ?_
          refine lv_iadd hx hb dX12_rate_26 ?_
          refine lv_icmp_ge (tgt := 67) hx hb dX12_rate_27 (by decide) (fun c11 => ?_) (fun c11 => ?_)
          · have hf := zif_p c11 hf
            cases hf
            have hk9 : (y3l9 : Int32) = t9 := hk9
            have hf := hfo9
            rw [← hk9] at hf
            have hf : (some y3l9) = some r := hf
            refine lv_iload_n hx hb dX12_rate_67 rfl (lv_at hl 3 rfl) ?_
            have hq := (Option.some.inj hf)
            subst hq
            exact z_iret S hG hS hlocks trivial hr dX12_rate_68
          · have hf := zif_n c11 hf
            refine lv_aload_n hx hb dX12_rate_30 rfl (lv_at hl 0 rfl) ?_
            refine z_get (c0 := 12) (i0 := 0) (k0 := 27) (T := TX12) (v := .ref (ad 12 0 28)) S hG (hZ.2.1 (12, 0) (by decide)) rfl inlX12 (by decide) rfl zw_239 rfl dX12_rate_31 ?_
            refine lv_iload hx hb dX12_rate_34 (lv_at hl 4 rfl) ?_
            obtain ⟨i12, hi12, hf⟩ := zbi hf
            refine z_iald (c0 := 12) (i0 := 0) (k0 := 27) S hG (hZ.2.1 (12, 0) (by decide)) (by decide) rfl hi12 dX12_rate_36 ?_
            refine lv_bipush (v := 14) hx hb dX12_rate_37 (by decide) ?_
            refine lv_icmp_ne (tgt := 61) hx hb dX12_rate_39 (by decide) (fun c13 => ?_) (fun c13 => ?_)
            · have hf := zif_n c13 hf
              exact KJ61_9 y3l9 y4l9 H locs ls hG hS (lv_sub hl [0, 1, 2, 3, 4] rfl) hf
            · have hf := zif_p c13 hf
              refine lv_aload_n hx hb dX12_rate_42 rfl (lv_at hl 0 rfl) ?_
              refine z_get (c0 := 12) (i0 := 0) (k0 := 28) (T := TX12) (v := .ref (ad 12 0 29)) S hG (hZ.2.1 (12, 0) (by decide)) rfl inlX12 (by decide) rfl zw_240 rfl dX12_rate_43 ?_
              refine lv_iload hx hb dX12_rate_46 (lv_at hl 4 rfl) ?_
              obtain ⟨i14, hi14, hf⟩ := zbi hf
              refine z_iald (c0 := 12) (i0 := 0) (k0 := 28) S hG (hZ.2.1 (12, 0) (by decide)) (by decide) rfl hi14 dX12_rate_48 ?_
              refine lv_iload_n hx hb dX12_rate_49 rfl (lv_at hl 2 rfl) ?_
              refine lv_icmp_ne (tgt := 61) hx hb dX12_rate_50 (by decide) (fun c15 => ?_) (fun c15 => ?_)
              · have hf := zif_n c15 hf
                exact KJ61_9 y3l9 y4l9 H locs ls hG hS (lv_sub hl [0, 1, 2, 3, 4] rfl) hf
              · have hf := zif_p c15 hf
                refine lv_aload_n hx hb dX12_rate_53 rfl (lv_at hl 0 rfl) ?_
                refine z_get (c0 := 12) (i0 := 0) (k0 := 29) (T := TX12) (v := .ref (ad 12 0 30)) S hG (hZ.2.1 (12, 0) (by decide)) rfl inlX12 (by decide) rfl zw_241 rfl dX12_rate_54 ?_
                refine lv_iload hx hb dX12_rate_57 (lv_at hl 4 rfl) ?_
                obtain ⟨i16, hi16, hf⟩ := zbi hf
                refine z_iald (c0 := 12) (i0 := 0) (k0 := 29) S hG (hZ.2.1 (12, 0) (by decide)) (by decide) rfl hi16 dX12_rate_59 ?_
                refine lv_istore_n (lv' := [(3, .int (zA σ 12 0 29 i16)), (0, .ref (ad 12 0 0)), (1, .int x1), (2, .int x2), (4, .int y4l9)]) hx hb dX12_rate_60 rfl hl (by decide) rfl (fun ls hl => ?_)
                exact KJ61_9 (zA σ 12 0 29 i16) y4l9 H locs ls hG hS (lv_sub hl [1, 2, 3, 0, 4] rfl) hf
    exact KL9 zFu 100 (40 * x1) H locs ls hG hS (lv_sub hl [2, 3, 4, 1, 0] rfl) hw9
  exact hK0 _ _ ls hG hS hl hf
set_option maxRecDepth 100000 in
set_option maxHeartbeats 4000000 in
theorem c_X12_costBy (l : Launch) (D : va_G) (aC : Nat → ClassId) (zs : Nat × Nat) (A : Nat → Prop) (nl : zNL) (ad : Nat → Nat → Nat → Nat) (σ : zM) (x1 : Int32) (x2 : Int32) (r : Int32)  (hf : f_X12_costBy σ x1 x2 = some r) : Met l yX12_costBy (Cond.code yX12_costBy cX12_costBy 6 (some .int) :: wsL_law) ({ frames := 3, cells := 0, slots := 0, locals := 71 } : Room) (zP D aC zs zfM A nl ad σ [.ref (ad 12 0 0), .int x1, .int x2]) (zQ (some (.int r)) (fun t => zG D aC A nl ad σ t t.heap ∧ True) A) 0 0 A := by
  refine Met.ofW (cc := cX12_costBy) (maxL := 6) (ret := (some .int)) (by decide) rfl ?_
  intro p e s m args below meth c s₁ B hml hv
  obtain ⟨rfl, hG, hZ⟩ := hv
  have hx := B.exec
  have hb := B.bytes
  have hr := B.returns
  have hts : ∀ w ∈ wsL_law, w.before ([.ref (ad 12 0 0), .int x1, .int x2] : List Value).toArray s = true := fun w h => (atoms_spec B.pre) w (List.mem_cons_of_mem _ h)
  have hown : s.vm.findClass RX12 = some m.cls := findClass_of_methodNamed B.named
  have hlocks := B.notSynchronized
  have S : zS p m c cX12_costBy 6 s ([.ref (ad 12 0 0), .int x1, .int x2] : List Value).toArray RX12 := ⟨hx, hb, hml, hown, hts⟩
  have hS : va_S A s.heap s.heap [] := va_S.rf
  have hl := lv_entry ([.ref (ad 12 0 0), .int x1, .int x2]) (n := 6) (Nat.le_of_ble_eq_true rfl)
  rw [lg_entry_eq]
  generalize (lg_sl ([.ref (ad 12 0 0), .int x1, .int x2]) ++ List.replicate (6 - (lg_sl ([.ref (ad 12 0 0), .int x1, .int x2])).length) Slot.unset).toArray = ls at hl ⊢
  have hl : lv_has ls 6 [(0, .ref (ad 12 0 0)), (1, .int x1), (2, .int x2)] := hl
  generalize hargs : ([.ref (ad 12 0 0), .int x1, .int x2] : List Value).toArray = args at S hts ⊢
  clear hargs
  have hK0 : ∀ (H : Heap) (locs : List Loc) (ls : Array Slot), zG D aC A nl ad σ s H → va_S A s.heap H locs → lv_has ls 6 [(0, .ref (ad 12 0 0)), (1, .int x1), (2, .int x2)] → f_X12_costBy σ x1 x2 = some r → zWk p l e ({ frames := 3, cells := 0, slots := 0, locals := 71 } : Room) s m args below meth c A (some (.int r)) (fun t => zG D aC A nl ad σ t t.heap ∧ True) H locs (F0 m 0 ls []) := by
    intro H locs ls hG hS hl hf
    unfold f_X12_costBy at hf
    refine lv_aload_n hx hb dX12_costBy_0 rfl (lv_at hl 0 rfl) ?_
    refine lv_iload_n hx hb dX12_costBy_1 rfl (lv_at hl 1 rfl) ?_
    obtain ⟨r1, er1, hf⟩ := zbi hf
    refine z_callV (n := 1) (rest := []) (st1 := [.int r1]) (c0 := 12) (i0 := 0) (hZ.2.1 (12, 0) (by decide)) (by rfl) S hG hS hZ (fun _ _ h => h) (c_X12_wallsOf l D aC zs A nl ad σ x1 r1 er1) zw_966 zw_967 zw_968 zw_5 zw_969 (by decide +kernel) ⟨rfl, rfl⟩ ⟨(Nat.le_of_ble_eq_true rfl), (Nat.le_of_ble_eq_true rfl)⟩ hl.1 rfl (by rfl) (by rfl) (Nat.le_of_ble_eq_true rfl) dX12_costBy_2 ⟨Nat.zero_le _, Nat.zero_le _⟩ (fun H locs hz2 hG hS => ?_)
    refine lv_aload_n hx hb dX12_costBy_5 rfl (lv_at hl 0 rfl) ?_
    refine lv_iload_n hx hb dX12_costBy_6 rfl (lv_at hl 2 rfl) ?_
    refine lv_iconst (v := 0) hx hb dX12_costBy_7 (by decide) ?_
    obtain ⟨r3, er3, hf⟩ := zbi hf
    refine z_callV (n := 2) (rest := [.int r1]) (st1 := [.int r3, .int r1]) (c0 := 12) (i0 := 0) (hZ.2.1 (12, 0) (by decide)) (by rfl) S hG hS hZ (fun _ _ h => h) (c_X12_tells l D aC zs A nl ad σ x2 0 r3 er3) zw_724 zw_725 zw_726 zw_5 zw_727 (by decide +kernel) ⟨rfl, rfl⟩ ⟨(Nat.le_of_ble_eq_true rfl), (Nat.le_of_ble_eq_true rfl)⟩ hl.1 rfl (by rfl) (by rfl) (Nat.le_of_ble_eq_true rfl) dX12_costBy_8 ⟨Nat.zero_le _, Nat.zero_le _⟩ (fun H locs hz4 hG hS => ?_)
    refine lv_imul hx hb dX12_costBy_11 ?_
    refine lv_istore_n (lv' := [(3, .int (r1 * r3)), (0, .ref (ad 12 0 0)), (1, .int x1), (2, .int x2)]) hx hb dX12_costBy_12 rfl hl (by decide) rfl (fun ls hl => ?_)
    refine lv_iconst (v := 0) hx hb dX12_costBy_13 (by decide) ?_
    refine lv_istore (lv' := [(4, .int 0), (3, .int (r1 * r3)), (0, .ref (ad 12 0 0)), (1, .int x1), (2, .int x2)]) hx hb dX12_costBy_14 hl (by decide) rfl (fun ls hl => ?_)
    obtain ⟨t16, hw16, hfo16⟩ := zbi hf
    have KL16 : ∀ (n : Nat) (y3l16 : Int32) (y4l16 : Int32) (H : Heap) (locs : List Loc) (ls : Array Slot), zG D aC A nl ad σ s H → va_S A s.heap H locs → lv_has ls 6 [(0, .ref (ad 12 0 0)), (1, .int x1), (2, .int x2), (3, .int y3l16), (4, .int y4l16)] → zwh (fun (q : (Int32 × Int32)) => f_X12_costBy_L16 σ x1 x2 q.1 q.2) n (y3l16, y4l16) = some t16 → zWk p l e ({ frames := 3, cells := 0, slots := 0, locals := 71 } : Room) s m args below meth c A (some (.int r)) (fun t => zG D aC A nl ad σ t t.heap ∧ True) H locs (F0 m 16 ls []) := by
      intro n
      induction n with
      | zero =>
        intro y3l16 y4l16 H locs ls hG hS hl hw
        exact (zwh_0 hw).elim
      | succ n ih16 =>
        intro y3l16 y4l16 H locs ls hG hS hl hw
        obtain ⟨rr16, hf, hk16⟩ := zwh_u hw
        have hf : f_X12_costBy_L16 σ x1 x2 y3l16 y4l16 = some rr16 := hf
        unfold f_X12_costBy_L16 at hf
        have KJ82_16 : ∀ (y4b82 : Int32) (t0b82 : Int32) (t1b82 : Int32)   (H : Heap) (locs : List Loc) (ls : Array Slot), zG D aC A nl ad σ s H → va_S A s.heap H locs → lv_has ls 6 [(0, .ref (ad 12 0 0)), (1, .int x1), (2, .int x2), (4, .int y4b82)] → (f_X12_costBy_B82_16 σ x1 x2 y4b82 t0b82 t1b82) = some rr16 → zWk p l e ({ frames := 3, cells := 0, slots := 0, locals := 71 } : Room) s m args below meth c A (some (.int r)) (fun t => zG D aC A nl ad σ t t.heap ∧ True) H locs (F0 m 82 ls [.int t1b82, .int t0b82]) := by
          intro y4b82 t0b82 t1b82   H locs ls hG hS hl hf
          unfold f_X12_costBy_B82_16 at hf
          refine lv_iadd hx hb dX12_costBy_82 ?_
          refine lv_istore_n (lv' := [(3, .int (t0b82 + t1b82)), (0, .ref (ad 12 0 0)), (1, .int x1), (2, .int x2), (4, .int y4b82)]) hx hb dX12_costBy_83 rfl hl (by decide) rfl (fun ls hl => ?_)
          refine lv_iinc (v := (y4b82 + 1)) (lv' := [(4, .int (y4b82 + 1)), (3, .int (t0b82 + t1b82)), (0, .ref (ad 12 0 0)), (1, .int x1), (2, .int x2)]) hx hb dX12_costBy_84 hl (k := 4) rfl rfl (by decide) rfl (fun ls hl => ?_)
          refine lv_goto (tgt := 16) hx hb dX12_costBy_87 (by decide) ?_
          cases hf
          exact ih16 (t0b82 + t1b82) (y4b82 + 1) H locs ls hG hS (lv_sub hl [2, 3, 4, 1, 0] rfl) hk16
        refine lv_iload hx hb dX12_costBy_16 (lv_at hl 4 rfl) ?_
        refine lv_sipush (v := 160) hx hb dX12_costBy_18 (by decide) ?_
        refine lv_icmp_ge (tgt := 90) hx hb dX12_costBy_21 (by decide) (fun c17 => ?_) (fun c17 => ?_)
        · have hf := zif_p c17 hf
          cases hf
          have hk16 : (y3l16 : Int32) = t16 := hk16
          have hf := hfo16
          rw [← hk16] at hf
          have hf : (some y3l16) = some r := hf
          refine lv_iload_n hx hb dX12_costBy_90 rfl (lv_at hl 3 rfl) ?_
          have hq := (Option.some.inj hf)
          subst hq
          exact z_iret S hG hS hlocks trivial hr dX12_costBy_91
        · have hf := zif_n c17 hf
          refine lv_aload_n hx hb dX12_costBy_24 rfl (lv_at hl 0 rfl) ?_
          refine lv_iload_n hx hb dX12_costBy_25 rfl (lv_at hl 1 rfl) ?_
          refine lv_iload hx hb dX12_costBy_26 (lv_at hl 4 rfl) ?_
          obtain ⟨r18, er18, hf⟩ := zbi hf
          refine z_callV (n := 2) (rest := []) (st1 := [.int r18]) (c0 := 12) (i0 := 0) (hZ.2.1 (12, 0) (by decide)) (by rfl) S hG hS hZ (fun _ _ h => h) (c_X12_at l D aC zs A nl ad σ x1 y4l16 r18 er18) zw_899 zw_900 zw_901 zw_5 zw_902 (by decide +kernel) ⟨rfl, rfl⟩ ⟨(Nat.le_of_ble_eq_true rfl), (Nat.le_of_ble_eq_true rfl)⟩ hl.1 rfl (by rfl) (by rfl) (Nat.le_of_ble_eq_true rfl) dX12_costBy_28 ⟨Nat.zero_le _, Nat.zero_le _⟩ (fun H locs hz19 hG hS => ?_)
          refine lv_istore (lv' := [(5, .int r18), (0, .ref (ad 12 0 0)), (1, .int x1), (2, .int x2), (3, .int y3l16), (4, .int y4l16)]) hx hb dX12_costBy_31 hl (by decide) rfl (fun ls hl => ?_)
          refine lv_iload_n hx hb dX12_costBy_33 rfl (lv_at hl 4 rfl) ?_
          refine lv_iload hx hb dX12_costBy_34 (lv_at hl 0 rfl) ?_
          refine lv_if_ne (tgt := 43) hx hb dX12_costBy_36 (by decide) (fun c20 => ?_) (fun c20 => ?_)
          · have hf := zif_n c20 hf
            refine lv_iload hx hb dX12_costBy_43 (lv_at hl 0 rfl) ?_
            refine lv_bipush (v := 13) hx hb dX12_costBy_45 (by decide) ?_
            refine lv_icmp_ne (tgt := 59) hx hb dX12_costBy_47 (by decide) (fun c21 => ?_) (fun c21 => ?_)
            · have hf := zif_n c21 hf
              refine lv_iload hx hb dX12_costBy_59 (lv_at hl 0 rfl) ?_
              refine lv_bipush (v := 14) hx hb dX12_costBy_61 (by decide) ?_
              refine lv_icmp_ne (tgt := 75) hx hb dX12_costBy_63 (by decide) (fun c22 => ?_) (fun c22 => ?_)
              · have hf := zif_n c22 hf
                refine lv_aload_n hx hb dX12_costBy_75 rfl (lv_at hl 1 rfl) ?_
                refine lv_iload_n hx hb dX12_costBy_76 rfl (lv_at hl 3 rfl) ?_
                refine lv_iload hx hb dX12_costBy_77 (lv_at hl 0 rfl) ?_
                obtain ⟨r23, er23, hf⟩ := zbi hf
                refine z_callV (n := 2) (rest := [.int y3l16]) (st1 := [.int r23, .int y3l16]) (c0 := 12) (i0 := 0) (hZ.2.1 (12, 0) (by decide)) (by rfl) S hG hS hZ (fun _ _ h => h) (c_X12_rate l D aC zs A nl ad σ x2 r18 r23 er23) zw_738 zw_739 zw_740 zw_5 zw_741 (by decide +kernel) ⟨rfl, rfl⟩ ⟨(Nat.le_of_ble_eq_true rfl), (Nat.le_of_ble_eq_true rfl)⟩ hl.1 rfl (by rfl) (by rfl) (Nat.le_of_ble_eq_true rfl) dX12_costBy_79 ⟨Nat.zero_le _, Nat.zero_le _⟩ (fun H locs hz24 hG hS => ?_)
                exact KJ82_16 y4l16 y3l16 r23 H locs ls hG hS (lv_sub hl [1, 2, 3, 5] rfl) hf
              · have hf := zif_p c22 hf
                refine lv_aload_n hx hb dX12_costBy_66 rfl (lv_at hl 1 rfl) ?_
                refine lv_iload_n hx hb dX12_costBy_67 rfl (lv_at hl 3 rfl) ?_
                refine lv_iconst (v := 2) hx hb dX12_costBy_68 (by decide) ?_
                obtain ⟨r25, er25, hf⟩ := zbi hf
                refine z_callV (n := 2) (rest := [.int y3l16]) (st1 := [.int r25, .int y3l16]) (c0 := 12) (i0 := 0) (hZ.2.1 (12, 0) (by decide)) (by rfl) S hG hS hZ (fun _ _ h => h) (c_X12_tells l D aC zs A nl ad σ x2 2 r25 er25) zw_724 zw_725 zw_726 zw_5 zw_727 (by decide +kernel) ⟨rfl, rfl⟩ ⟨(Nat.le_of_ble_eq_true rfl), (Nat.le_of_ble_eq_true rfl)⟩ hl.1 rfl (by rfl) (by rfl) (Nat.le_of_ble_eq_true rfl) dX12_costBy_69 ⟨Nat.zero_le _, Nat.zero_le _⟩ (fun H locs hz26 hG hS => ?_)
                refine lv_goto (tgt := 82) hx hb dX12_costBy_72 (by decide) ?_
                exact KJ82_16 y4l16 y3l16 r25 H locs ls hG hS (lv_sub hl [1, 2, 3, 5] rfl) hf
            · have hf := zif_p c21 hf
              refine lv_aload_n hx hb dX12_costBy_50 rfl (lv_at hl 1 rfl) ?_
              refine lv_iload_n hx hb dX12_costBy_51 rfl (lv_at hl 3 rfl) ?_
              refine lv_iconst (v := 1) hx hb dX12_costBy_52 (by decide) ?_
              obtain ⟨r27, er27, hf⟩ := zbi hf
              refine z_callV (n := 2) (rest := [.int y3l16]) (st1 := [.int r27, .int y3l16]) (c0 := 12) (i0 := 0) (hZ.2.1 (12, 0) (by decide)) (by rfl) S hG hS hZ (fun _ _ h => h) (c_X12_tells l D aC zs A nl ad σ x2 1 r27 er27) zw_724 zw_725 zw_726 zw_5 zw_727 (by decide +kernel) ⟨rfl, rfl⟩ ⟨(Nat.le_of_ble_eq_true rfl), (Nat.le_of_ble_eq_true rfl)⟩ hl.1 rfl (by rfl) (by rfl) (Nat.le_of_ble_eq_true rfl) dX12_costBy_53 ⟨Nat.zero_le _, Nat.zero_le _⟩ (fun H locs hz28 hG hS => ?_)
              refine lv_goto (tgt := 82) hx hb dX12_costBy_56 (by decide) ?_
              exact KJ82_16 y4l16 y3l16 r27 H locs ls hG hS (lv_sub hl [1, 2, 3, 5] rfl) hf
          · have hf := zif_p c20 hf
            refine lv_iconst (v := 0) hx hb dX12_costBy_39 (by decide) ?_
            refine lv_goto (tgt := 82) hx hb dX12_costBy_40 (by decide) ?_
            exact KJ82_16 y4l16 y3l16 0 H locs ls hG hS (lv_sub hl [1, 2, 3, 5] rfl) hf
    exact KL16 zFu (r1 * r3) 0 H locs ls hG hS (lv_sub hl [2, 3, 4, 1, 0] rfl) hw16
  exact hK0 _ _ ls hG hS hl hf
set_option maxRecDepth 100000 in
set_option maxHeartbeats 4000000 in
theorem c_X12_bindsOn (l : Launch) (D : va_G) (aC : Nat → ClassId) (zs : Nat × Nat) (A : Nat → Prop) (nl : zNL) (ad : Nat → Nat → Nat → Nat) (σ : zM) (x1 : Int32) (r : Int32)  (hf : f_X12_bindsOn σ x1 = some r) : Met l yX12_bindsOn (Cond.code yX12_bindsOn cX12_bindsOn 4 (some .int) :: wsL_law) ({ frames := 0, cells := 0, slots := 0, locals := 0 } : Room) (zP D aC zs zfM A nl ad σ [.ref (ad 12 0 0), .int x1]) (zQ (some (.int r)) (fun t => zG D aC A nl ad σ t t.heap ∧ True) A) 0 0 A := by
  refine Met.ofW (cc := cX12_bindsOn) (maxL := 4) (ret := (some .int)) (by decide) rfl ?_
  intro p e s m args below meth c s₁ B hml hv
  obtain ⟨rfl, hG, hZ⟩ := hv
  have hx := B.exec
  have hb := B.bytes
  have hr := B.returns
  have hts : ∀ w ∈ wsL_law, w.before ([.ref (ad 12 0 0), .int x1] : List Value).toArray s = true := fun w h => (atoms_spec B.pre) w (List.mem_cons_of_mem _ h)
  have hown : s.vm.findClass RX12 = some m.cls := findClass_of_methodNamed B.named
  have hlocks := B.notSynchronized
  have S : zS p m c cX12_bindsOn 4 s ([.ref (ad 12 0 0), .int x1] : List Value).toArray RX12 := ⟨hx, hb, hml, hown, hts⟩
  have hS : va_S A s.heap s.heap [] := va_S.rf
  have hl := lv_entry ([.ref (ad 12 0 0), .int x1]) (n := 4) (Nat.le_of_ble_eq_true rfl)
  rw [lg_entry_eq]
  generalize (lg_sl ([.ref (ad 12 0 0), .int x1]) ++ List.replicate (4 - (lg_sl ([.ref (ad 12 0 0), .int x1])).length) Slot.unset).toArray = ls at hl ⊢
  have hl : lv_has ls 4 [(0, .ref (ad 12 0 0)), (1, .int x1)] := hl
  generalize hargs : ([.ref (ad 12 0 0), .int x1] : List Value).toArray = args at S hts ⊢
  clear hargs
  have hK0 : ∀ (H : Heap) (locs : List Loc) (ls : Array Slot), zG D aC A nl ad σ s H → va_S A s.heap H locs → lv_has ls 4 [(0, .ref (ad 12 0 0)), (1, .int x1)] → f_X12_bindsOn σ x1 = some r → zWk p l e ({ frames := 0, cells := 0, slots := 0, locals := 0 } : Room) s m args below meth c A (some (.int r)) (fun t => zG D aC A nl ad σ t t.heap ∧ True) H locs (F0 m 0 ls []) := by
    intro H locs ls hG hS hl hf
    unfold f_X12_bindsOn at hf
    refine lv_iconst (v := (-1)) hx hb dX12_bindsOn_0 (by decide) ?_
    refine lv_istore_n (lv' := [(2, .int (-1)), (0, .ref (ad 12 0 0)), (1, .int x1)]) hx hb dX12_bindsOn_1 rfl hl (by decide) rfl (fun ls hl => ?_)
    refine lv_iconst (v := 0) hx hb dX12_bindsOn_2 (by decide) ?_
    refine lv_istore_n (lv' := [(3, .int 0), (2, .int (-1)), (0, .ref (ad 12 0 0)), (1, .int x1)]) hx hb dX12_bindsOn_3 rfl hl (by decide) rfl (fun ls hl => ?_)
    obtain ⟨t4, hw4, hfo4⟩ := zbi hf
    have KL4 : ∀ (n : Nat) (y2l4 : Int32) (y3l4 : Int32) (H : Heap) (locs : List Loc) (ls : Array Slot), zG D aC A nl ad σ s H → va_S A s.heap H locs → lv_has ls 4 [(0, .ref (ad 12 0 0)), (1, .int x1), (2, .int y2l4), (3, .int y3l4)] → zwh (fun (q : (Int32 × Int32)) => f_X12_bindsOn_L4 σ x1 q.1 q.2) n (y2l4, y3l4) = some t4 → zWk p l e ({ frames := 0, cells := 0, slots := 0, locals := 0 } : Room) s m args below meth c A (some (.int r)) (fun t => zG D aC A nl ad σ t t.heap ∧ True) H locs (F0 m 4 ls []) := by
      intro n
      induction n with
      | zero =>
        intro y2l4 y3l4 H locs ls hG hS hl hw
        exact (zwh_0 hw).elim
      | succ n ih4 =>
        intro y2l4 y3l4 H locs ls hG hS hl hw
        obtain ⟨rr4, hf, hk4⟩ := zwh_u hw
        have hf : f_X12_bindsOn_L4 σ x1 y2l4 y3l4 = some rr4 := hf
        unfold f_X12_bindsOn_L4 at hf
        have KJ24_4 : ∀ (y2b24 : Int32) (y3b24 : Int32)   (H : Heap) (locs : List Loc) (ls : Array Slot), zG D aC A nl ad σ s H → va_S A s.heap H locs → lv_has ls 4 [(0, .ref (ad 12 0 0)), (1, .int x1), (2, .int y2b24), (3, .int y3b24)] → (f_X12_bindsOn_B24_4 σ x1 y2b24 y3b24) = some rr4 → zWk p l e ({ frames := 0, cells := 0, slots := 0, locals := 0 } : Room) s m args below meth c A (some (.int r)) (fun t => zG D aC A nl ad σ t t.heap ∧ True) H locs (F0 m 24 ls []) := by
          intro y2b24 y3b24   H locs ls hG hS hl hf
          unfold f_X12_bindsOn_B24_4 at hf
          refine lv_iinc (v := (y3b24 + 1)) (lv' := [(3, .int (y3b24 + 1)), (0, .ref (ad 12 0 0)), (1, .int x1), (2, .int y2b24)]) hx hb dX12_bindsOn_24 hl (k := 3) rfl rfl (by decide) rfl (fun ls hl => ?_)
          refine lv_goto (tgt := 4) hx hb dX12_bindsOn_27 (by decide) ?_
          cases hf
          exact ih4 y2b24 (y3b24 + 1) H locs ls hG hS (lv_sub hl [1, 2, 3, 0] rfl) hk4
        refine lv_iload_n hx hb dX12_bindsOn_4 rfl (lv_at hl 3 rfl) ?_
        refine lv_aload_n hx hb dX12_bindsOn_5 rfl (lv_at hl 0 rfl) ?_
        refine z_get (c0 := 12) (i0 := 0) (k0 := 16) (T := TX12) (v := .int (zI σ 12 0 16)) S hG (hZ.2.1 (12, 0) (by decide)) rfl inlX12 (by decide) rfl zw_508 rfl dX12_bindsOn_6 ?_
        refine lv_icmp_ge (tgt := 30) hx hb dX12_bindsOn_9 (by decide) (fun c4 => ?_) (fun c4 => ?_)
        · have hf := zif_p c4 hf
          cases hf
          have hk4 : (y2l4 : Int32) = t4 := hk4
          have hf := hfo4
          rw [← hk4] at hf
          have hf : (some y2l4) = some r := hf
          refine lv_iload_n hx hb dX12_bindsOn_30 rfl (lv_at hl 2 rfl) ?_
          have hq := (Option.some.inj hf)
          subst hq
          exact z_iret S hG hS hlocks trivial hr dX12_bindsOn_31
        · have hf := zif_n c4 hf
          refine lv_aload_n hx hb dX12_bindsOn_12 rfl (lv_at hl 0 rfl) ?_
          refine z_get (c0 := 12) (i0 := 0) (k0 := 26) (T := TX12) (v := .ref (ad 12 0 27)) S hG (hZ.2.1 (12, 0) (by decide)) rfl inlX12 (by decide) rfl zw_238 rfl dX12_bindsOn_13 ?_
          refine lv_iload_n hx hb dX12_bindsOn_16 rfl (lv_at hl 3 rfl) ?_
          obtain ⟨i5, hi5, hf⟩ := zbi hf
          refine z_iald (c0 := 12) (i0 := 0) (k0 := 26) S hG (hZ.2.1 (12, 0) (by decide)) (by decide) rfl hi5 dX12_bindsOn_17 ?_
          refine lv_iload_n hx hb dX12_bindsOn_18 rfl (lv_at hl 1 rfl) ?_
          refine lv_icmp_gt (tgt := 24) hx hb dX12_bindsOn_19 (by decide) (fun c6 => ?_) (fun c6 => ?_)
          · have hf := zif_p c6 hf
            exact KJ24_4 y2l4 y3l4 H locs ls hG hS (lv_sub hl [0, 1, 2, 3] rfl) hf
          · have hf := zif_n c6 hf
            refine lv_iload_n hx hb dX12_bindsOn_22 rfl (lv_at hl 3 rfl) ?_
            refine lv_istore_n (lv' := [(2, .int y3l4), (0, .ref (ad 12 0 0)), (1, .int x1), (3, .int y3l4)]) hx hb dX12_bindsOn_23 rfl hl (by decide) rfl (fun ls hl => ?_)
            exact KJ24_4 y3l4 y3l4 H locs ls hG hS (lv_sub hl [1, 2, 0, 3] rfl) hf
    exact KL4 zFu (-1) 0 H locs ls hG hS (lv_sub hl [2, 3, 1, 0] rfl) hw4
  exact hK0 _ _ ls hG hS hl hf
set_option maxRecDepth 100000 in
set_option maxHeartbeats 4000000 in
theorem c_X12_cost (l : Launch) (D : va_G) (aC : Nat → ClassId) (zs : Nat × Nat) (A : Nat → Prop) (nl : zNL) (ad : Nat → Nat → Nat → Nat) (σ : zM) (x1 : Int32) (x2 : Int32) (x3 : Int32) (r : Int32)  (hf : f_X12_cost σ x1 x2 x3 = some r) : Met l yX12_cost (Cond.code yX12_cost cX12_cost 6 (some .int) :: wsL_law) ({ frames := 4, cells := 0, slots := 0, locals := 96 } : Room) (zP D aC zs zfM A nl ad σ [.ref (ad 12 0 0), .int x1, .int x2, .int x3]) (zQ (some (.int r)) (fun t => zG D aC A nl ad σ t t.heap ∧ True) A) 0 0 A := by
  refine Met.ofW (cc := cX12_cost) (maxL := 6) (ret := (some .int)) (by decide) rfl ?_
  intro p e s m args below meth c s₁ B hml hv
  obtain ⟨rfl, hG, hZ⟩ := hv
  have hx := B.exec
  have hb := B.bytes
  have hr := B.returns
  have hts : ∀ w ∈ wsL_law, w.before ([.ref (ad 12 0 0), .int x1, .int x2, .int x3] : List Value).toArray s = true := fun w h => (atoms_spec B.pre) w (List.mem_cons_of_mem _ h)
  have hown : s.vm.findClass RX12 = some m.cls := findClass_of_methodNamed B.named
  have hlocks := B.notSynchronized
  have S : zS p m c cX12_cost 6 s ([.ref (ad 12 0 0), .int x1, .int x2, .int x3] : List Value).toArray RX12 := ⟨hx, hb, hml, hown, hts⟩
  have hS : va_S A s.heap s.heap [] := va_S.rf
  have hl := lv_entry ([.ref (ad 12 0 0), .int x1, .int x2, .int x3]) (n := 6) (Nat.le_of_ble_eq_true rfl)
  rw [lg_entry_eq]
  generalize (lg_sl ([.ref (ad 12 0 0), .int x1, .int x2, .int x3]) ++ List.replicate (6 - (lg_sl ([.ref (ad 12 0 0), .int x1, .int x2, .int x3])).length) Slot.unset).toArray = ls at hl ⊢
  have hl : lv_has ls 6 [(0, .ref (ad 12 0 0)), (1, .int x1), (2, .int x2), (3, .int x3)] := hl
  generalize hargs : ([.ref (ad 12 0 0), .int x1, .int x2, .int x3] : List Value).toArray = args at S hts ⊢
  clear hargs
  have hK0 : ∀ (H : Heap) (locs : List Loc) (ls : Array Slot), zG D aC A nl ad σ s H → va_S A s.heap H locs → lv_has ls 6 [(0, .ref (ad 12 0 0)), (1, .int x1), (2, .int x2), (3, .int x3)] → f_X12_cost σ x1 x2 x3 = some r → zWk p l e ({ frames := 4, cells := 0, slots := 0, locals := 96 } : Room) s m args below meth c A (some (.int r)) (fun t => zG D aC A nl ad σ t t.heap ∧ True) H locs (F0 m 0 ls []) := by
    intro H locs ls hG hS hl hf
    unfold f_X12_cost at hf
    refine lv_aload_n hx hb dX12_cost_0 rfl (lv_at hl 0 rfl) ?_
    refine lv_iload_n hx hb dX12_cost_1 rfl (lv_at hl 1 rfl) ?_
    refine z_callV (n := 1) (rest := []) (st1 := [.int (f_X12_isScheme σ x1)]) (c0 := 12) (i0 := 0) (hZ.2.1 (12, 0) (by decide)) (by rfl) S hG hS hZ (fun _ _ h => h) (c_X12_isScheme l D aC zs A nl ad σ x1 (f_X12_isScheme σ x1) rfl) zw_837 zw_838 zw_839 zw_5 zw_840 (by decide +kernel) ⟨rfl, rfl⟩ ⟨(Nat.le_of_ble_eq_true rfl), (Nat.le_of_ble_eq_true rfl)⟩ hl.1 rfl (by rfl) (by rfl) (Nat.le_of_ble_eq_true rfl) dX12_cost_2 ⟨Nat.zero_le _, Nat.zero_le _⟩ (fun H locs hz1 hG hS => ?_)
    refine lv_if_eq (tgt := 24) hx hb dX12_cost_5 (by decide) (fun c2 => ?_) (fun c2 => ?_)
    · have hf := zif_p c2 hf
      refine lv_iconst (v := (-1)) hx hb dX12_cost_24 (by decide) ?_
      have hq := (Option.some.inj hf)
      subst hq
      exact z_iret S hG hS hlocks trivial hr dX12_cost_25
    · have hf := zif_n c2 hf
      refine lv_iload_n hx hb dX12_cost_8 rfl (lv_at hl 2 rfl) ?_
      refine z_callS (n := 1) (rest := []) (st1 := [.int (f_X12_isDay x2)]) S hG hS hZ (fun _ _ h => h) (c_X12_isDay l D aC zs A nl ad σ x2 (f_X12_isDay x2) rfl) zw_685 zw_686 zw_5 zw_687 (by decide +kernel) ⟨rfl, rfl⟩ ⟨(Nat.le_of_ble_eq_true rfl), (Nat.le_of_ble_eq_true rfl)⟩ hl.1 rfl (by rfl) (by rfl) (Nat.le_of_ble_eq_true rfl) dX12_cost_9 ⟨Nat.zero_le _, Nat.zero_le _⟩ (fun H locs hz3 hG hS => ?_)
      refine lv_if_eq (tgt := 24) hx hb dX12_cost_12 (by decide) (fun c4 => ?_) (fun c4 => ?_)
      · have hf := zif_p c4 hf
        refine lv_iconst (v := (-1)) hx hb dX12_cost_24 (by decide) ?_
        have hq := (Option.some.inj hf)
        subst hq
        exact z_iret S hG hS hlocks trivial hr dX12_cost_25
      · have hf := zif_n c4 hf
        refine lv_iload_n hx hb dX12_cost_15 rfl (lv_at hl 3 rfl) ?_
        refine lv_iconst (v := 0) hx hb dX12_cost_16 (by decide) ?_
        refine lv_iconst (v := 2) hx hb dX12_cost_17 (by decide) ?_
        refine z_callS (n := 3) (rest := []) (st1 := [.int (f_X12_isIn x3 0 2)]) S hG hS hZ (fun _ _ h => h) (c_X12_isIn l D aC zs A nl ad σ x3 0 2 (f_X12_isIn x3 0 2) rfl) zw_514 zw_515 zw_5 zw_516 (by decide +kernel) ⟨rfl, rfl⟩ ⟨(Nat.le_of_ble_eq_true rfl), (Nat.le_of_ble_eq_true rfl)⟩ hl.1 rfl (by rfl) (by rfl) (Nat.le_of_ble_eq_true rfl) dX12_cost_18 ⟨Nat.zero_le _, Nat.zero_le _⟩ (fun H locs hz5 hG hS => ?_)
        refine lv_if_ne (tgt := 26) hx hb dX12_cost_21 (by decide) (fun c6 => ?_) (fun c6 => ?_)
        · have hf := zif_n c6 hf
          refine lv_aload_n hx hb dX12_cost_26 rfl (lv_at hl 0 rfl) ?_
          refine lv_iload_n hx hb dX12_cost_27 rfl (lv_at hl 1 rfl) ?_
          refine lv_aload_n hx hb dX12_cost_28 rfl (lv_at hl 0 rfl) ?_
          refine lv_iload_n hx hb dX12_cost_29 rfl (lv_at hl 2 rfl) ?_
          obtain ⟨r7, er7, hf⟩ := zbi hf
          refine z_callV (n := 1) (rest := [.int x1, .ref (ad 12 0 0)]) (st1 := [.int r7, .int x1, .ref (ad 12 0 0)]) (c0 := 12) (i0 := 0) (hZ.2.1 (12, 0) (by decide)) (by rfl) S hG hS hZ (fun _ _ h => h) (c_X12_bindsOn l D aC zs A nl ad σ x2 r7 er7) zw_688 zw_689 zw_690 zw_5 zw_691 (by decide +kernel) ⟨rfl, rfl⟩ ⟨(Nat.le_of_ble_eq_true rfl), (Nat.le_of_ble_eq_true rfl)⟩ hl.1 rfl (by rfl) (by rfl) (Nat.le_of_ble_eq_true rfl) dX12_cost_30 ⟨Nat.zero_le _, Nat.zero_le _⟩ (fun H locs hz8 hG hS => ?_)
          obtain ⟨r9, er9, hf⟩ := zbi hf
          refine z_callV (n := 2) (rest := []) (st1 := [.int r9]) (c0 := 12) (i0 := 0) (hZ.2.1 (12, 0) (by decide)) (by rfl) S hG hS hZ (fun _ _ h => h) (c_X12_costBy l D aC zs A nl ad σ x1 r7 r9 er9) zw_962 zw_963 zw_964 zw_5 zw_965 (by decide +kernel) ⟨rfl, rfl⟩ ⟨(Nat.le_of_ble_eq_true rfl), (Nat.le_of_ble_eq_true rfl)⟩ hl.1 rfl (by rfl) (by rfl) (Nat.le_of_ble_eq_true rfl) dX12_cost_33 ⟨Nat.zero_le _, Nat.zero_le _⟩ (fun H locs hz10 hG hS => ?_)
          refine lv_istore (lv' := [(4, .int r9), (0, .ref (ad 12 0 0)), (1, .int x1), (2, .int x2), (3, .int x3)]) hx hb dX12_cost_36 hl (by decide) rfl (fun ls hl => ?_)
          refine lv_iload hx hb dX12_cost_38 (lv_at hl 0 rfl) ?_
          refine lv_i2l (v := r9.toInt64) hx hb dX12_cost_40 rfl ?_
          refine lv_aload_n hx hb dX12_cost_41 rfl (lv_at hl 1 rfl) ?_
          refine lv_aload_n hx hb dX12_cost_42 rfl (lv_at hl 1 rfl) ?_
          refine lv_iload_n hx hb dX12_cost_43 rfl (lv_at hl 3 rfl) ?_
          obtain ⟨r11, er11, hf⟩ := zbi hf
          refine z_callV (n := 1) (rest := [.ref (ad 12 0 0), .long r9.toInt64]) (st1 := [.int r11, .ref (ad 12 0 0), .long r9.toInt64]) (c0 := 12) (i0 := 0) (hZ.2.1 (12, 0) (by decide)) (by rfl) S hG hS hZ (fun _ _ h => h) (c_X12_bindsOn l D aC zs A nl ad σ x2 r11 er11) zw_688 zw_689 zw_690 zw_5 zw_691 (by decide +kernel) ⟨rfl, rfl⟩ ⟨(Nat.le_of_ble_eq_true rfl), (Nat.le_of_ble_eq_true rfl)⟩ hl.1 rfl (by rfl) (by rfl) (Nat.le_of_ble_eq_true rfl) dX12_cost_44 ⟨Nat.zero_le _, Nat.zero_le _⟩ (fun H locs hz12 hG hS => ?_)
          refine lv_iconst (v := 3) hx hb dX12_cost_47 (by decide) ?_
          obtain ⟨r13, er13, hf⟩ := zbi hf
          refine z_callV (n := 2) (rest := [.long r9.toInt64]) (st1 := [.int r13, .long r9.toInt64]) (c0 := 12) (i0 := 0) (hZ.2.1 (12, 0) (by decide)) (by rfl) S hG hS hZ (fun _ _ h => h) (c_X12_tells l D aC zs A nl ad σ r11 3 r13 er13) zw_724 zw_725 zw_726 zw_5 zw_727 (by decide +kernel) ⟨rfl, rfl⟩ ⟨(Nat.le_of_ble_eq_true rfl), (Nat.le_of_ble_eq_true rfl)⟩ hl.1 rfl (by rfl) (by rfl) (Nat.le_of_ble_eq_true rfl) dX12_cost_48 ⟨Nat.zero_le _, Nat.zero_le _⟩ (fun H locs hz14 hG hS => ?_)
          refine lv_i2l (v := r13.toInt64) hx hb dX12_cost_51 rfl ?_
          refine lv_lmul hx hb dX12_cost_52 ?_
          refine lv_ldc2 (v := 100) hx hb hown (hts _ zw_961) dX12_cost_53 ?_
          refine lv_ldiv hx hb dX12_cost_56 (by decide) ?_
          refine lv_l2i (v := ((r9.toInt64 * r13.toInt64) / 100).toInt32) hx hb dX12_cost_57 rfl ?_
          refine lv_istore (lv' := [(5, .int (((r9.toInt64 * r13.toInt64) / 100).toInt32)), (4, .int r9), (0, .ref (ad 12 0 0)), (1, .int x1), (2, .int x2), (3, .int x3)]) hx hb dX12_cost_58 hl (by decide) rfl (fun ls hl => ?_)
          refine lv_iload_n hx hb dX12_cost_60 rfl (lv_at hl 5 rfl) ?_
          refine lv_if_ne (tgt := 69) hx hb dX12_cost_61 (by decide) (fun c15 => ?_) (fun c15 => ?_)
          · have hf := zif_n c15 hf
            refine lv_iload_n hx hb dX12_cost_69 rfl (lv_at hl 5 rfl) ?_
            refine lv_iconst (v := 1) hx hb dX12_cost_70 (by decide) ?_
            refine lv_icmp_ne (tgt := 82) hx hb dX12_cost_71 (by decide) (fun c16 => ?_) (fun c16 => ?_)
            · have hf := zif_n c16 hf
              refine lv_iload hx hb dX12_cost_82 (lv_at hl 1 rfl) ?_
              refine lv_iload hx hb dX12_cost_84 (lv_at hl 0 rfl) ?_
              refine lv_iadd hx hb dX12_cost_86 ?_
              have hq := (Option.some.inj hf)
              subst hq
              exact z_iret S hG hS hlocks trivial hr dX12_cost_87
            · have hf := zif_p c16 hf
              refine lv_iload hx hb dX12_cost_74 (lv_at hl 1 rfl) ?_
              refine lv_iload hx hb dX12_cost_76 (lv_at hl 0 rfl) ?_
              refine lv_isub hx hb dX12_cost_78 ?_
              refine lv_goto (tgt := 87) hx hb dX12_cost_79 (by decide) ?_
              have hq := (Option.some.inj hf)
              subst hq
              exact z_iret S hG hS hlocks trivial hr dX12_cost_87
          · have hf := zif_p c15 hf
            refine lv_iload hx hb dX12_cost_64 (lv_at hl 1 rfl) ?_
            refine lv_goto (tgt := 87) hx hb dX12_cost_66 (by decide) ?_
            have hq := (Option.some.inj hf)
            subst hq
            exact z_iret S hG hS hlocks trivial hr dX12_cost_87
        · have hf := zif_p c6 hf
          refine lv_iconst (v := (-1)) hx hb dX12_cost_24 (by decide) ?_
          have hq := (Option.some.inj hf)
          subst hq
          exact z_iret S hG hS hlocks trivial hr dX12_cost_25
  exact hK0 _ _ ls hG hS hl hf
set_option maxRecDepth 100000 in
set_option maxHeartbeats 4000000 in
theorem c_X12_briefOf (l : Launch) (D : va_G) (aC : Nat → ClassId) (zs : Nat × Nat) (A : Nat → Prop) (nl : zNL) (ad : Nat → Nat → Nat → Nat) (σ : zM) (x1 : Int32) (r : Int32)  (hf : f_X12_briefOf σ x1 = some r) : Met l yX12_briefOf (Cond.code yX12_briefOf cX12_briefOf 2 (some .int) :: wsL_law) ({ frames := 1, cells := 0, slots := 0, locals := 23 } : Room) (zP D aC zs zfM A nl ad σ [.ref (ad 12 0 0), .int x1]) (zQ (some (.int r)) (fun t => zG D aC A nl ad σ t t.heap ∧ True) A) 0 0 A := by
  refine Met.ofW (cc := cX12_briefOf) (maxL := 2) (ret := (some .int)) (by decide) rfl ?_
  intro p e s m args below meth c s₁ B hml hv
  obtain ⟨rfl, hG, hZ⟩ := hv
  have hx := B.exec
  have hb := B.bytes
  have hr := B.returns
  have hts : ∀ w ∈ wsL_law, w.before ([.ref (ad 12 0 0), .int x1] : List Value).toArray s = true := fun w h => (atoms_spec B.pre) w (List.mem_cons_of_mem _ h)
  have hown : s.vm.findClass RX12 = some m.cls := findClass_of_methodNamed B.named
  have hlocks := B.notSynchronized
  have S : zS p m c cX12_briefOf 2 s ([.ref (ad 12 0 0), .int x1] : List Value).toArray RX12 := ⟨hx, hb, hml, hown, hts⟩
  have hS : va_S A s.heap s.heap [] := va_S.rf
  have hl := lv_entry ([.ref (ad 12 0 0), .int x1]) (n := 2) (Nat.le_of_ble_eq_true rfl)
  rw [lg_entry_eq]
  generalize (lg_sl ([.ref (ad 12 0 0), .int x1]) ++ List.replicate (2 - (lg_sl ([.ref (ad 12 0 0), .int x1])).length) Slot.unset).toArray = ls at hl ⊢
  have hl : lv_has ls 2 [(0, .ref (ad 12 0 0)), (1, .int x1)] := hl
  generalize hargs : ([.ref (ad 12 0 0), .int x1] : List Value).toArray = args at S hts ⊢
  clear hargs
  have KJ24 : ∀ (t1b24 : Int32)   (H : Heap) (locs : List Loc) (ls : Array Slot), zG D aC A nl ad σ s H → va_S A s.heap H locs → lv_has ls 2 [(0, .ref (ad 12 0 0)), (1, .int x1)] → (f_X12_briefOf_B24 σ x1 t1b24) = some r → zWk p l e ({ frames := 1, cells := 0, slots := 0, locals := 23 } : Room) s m args below meth c A (some (.int r)) (fun t => zG D aC A nl ad σ t t.heap ∧ True) H locs (F0 m 24 ls [.int t1b24, .ref (ad 12 0 0)]) := by
    intro t1b24   H locs ls hG hS hl hf
    unfold f_X12_briefOf_B24 at hf
    obtain ⟨r4, er4, hf⟩ := zbi hf
    refine z_callV (n := 1) (rest := []) (st1 := [.int r4]) (c0 := 12) (i0 := 0) (hZ.2.1 (12, 0) (by decide)) (by rfl) S hG hS hZ (fun _ _ h => h) (c_X12_bindsOn l D aC zs A nl ad σ t1b24 r4 er4) zw_688 zw_689 zw_690 zw_5 zw_691 (by decide +kernel) ⟨rfl, rfl⟩ ⟨(Nat.le_of_ble_eq_true rfl), (Nat.le_of_ble_eq_true rfl)⟩ hl.1 rfl (by rfl) (by rfl) (Nat.le_of_ble_eq_true rfl) dX12_briefOf_24 ⟨Nat.zero_le _, Nat.zero_le _⟩ (fun H locs hz5 hG hS => ?_)
    have hq := (Option.some.inj hf)
    subst hq
    exact z_iret S hG hS hlocks trivial hr dX12_briefOf_27
  have hK0 : ∀ (H : Heap) (locs : List Loc) (ls : Array Slot), zG D aC A nl ad σ s H → va_S A s.heap H locs → lv_has ls 2 [(0, .ref (ad 12 0 0)), (1, .int x1)] → f_X12_briefOf σ x1 = some r → zWk p l e ({ frames := 1, cells := 0, slots := 0, locals := 23 } : Room) s m args below meth c A (some (.int r)) (fun t => zG D aC A nl ad σ t t.heap ∧ True) H locs (F0 m 0 ls []) := by
    intro H locs ls hG hS hl hf
    unfold f_X12_briefOf at hf
    refine lv_aload_n hx hb dX12_briefOf_0 rfl (lv_at hl 0 rfl) ?_
    refine lv_aload_n hx hb dX12_briefOf_1 rfl (lv_at hl 0 rfl) ?_
    refine z_get (c0 := 12) (i0 := 0) (k0 := 5) (T := TX12) (v := .ref (ad 12 0 6)) S hG (hZ.2.1 (12, 0) (by decide)) rfl inlX12 (by decide) rfl zw_227 rfl dX12_briefOf_2 ?_
    refine lv_iload_n hx hb dX12_briefOf_5 rfl (lv_at hl 1 rfl) ?_
    obtain ⟨i1, hi1, hf⟩ := zbi hf
    refine z_iald (c0 := 12) (i0 := 0) (k0 := 5) S hG (hZ.2.1 (12, 0) (by decide)) (by decide) rfl hi1 dX12_briefOf_6 ?_
    refine lv_iconst (v := (-1)) hx hb dX12_briefOf_7 (by decide) ?_
    refine lv_icmp_ne (tgt := 18) hx hb dX12_briefOf_8 (by decide) (fun c2 => ?_) (fun c2 => ?_)
    · have hf := zif_n c2 hf
      refine lv_aload_n hx hb dX12_briefOf_18 rfl (lv_at hl 0 rfl) ?_
      refine z_get (c0 := 12) (i0 := 0) (k0 := 5) (T := TX12) (v := .ref (ad 12 0 6)) S hG (hZ.2.1 (12, 0) (by decide)) rfl inlX12 (by decide) rfl zw_227 rfl dX12_briefOf_19 ?_
      refine lv_iload_n hx hb dX12_briefOf_22 rfl (lv_at hl 1 rfl) ?_
      obtain ⟨i3, hi3, hf⟩ := zbi hf
      refine z_iald (c0 := 12) (i0 := 0) (k0 := 5) S hG (hZ.2.1 (12, 0) (by decide)) (by decide) rfl hi3 dX12_briefOf_23 ?_
      exact KJ24 (zA σ 12 0 5 i3) H locs ls hG hS (lv_sub hl [0, 1] rfl) hf
    · have hf := zif_p c2 hf
      refine lv_aload_n hx hb dX12_briefOf_11 rfl (lv_at hl 0 rfl) ?_
      refine z_get (c0 := 12) (i0 := 0) (k0 := 0) (T := TX12) (v := .int (zI σ 12 0 0)) S hG (hZ.2.1 (12, 0) (by decide)) rfl inlX12 (by decide) rfl zw_278 rfl dX12_briefOf_12 ?_
      refine lv_goto (tgt := 24) hx hb dX12_briefOf_15 (by decide) ?_
      exact KJ24 (zI σ 12 0 0) H locs ls hG hS (lv_sub hl [0, 1] rfl) hf
  exact hK0 _ _ ls hG hS hl hf
set_option maxRecDepth 100000 in
set_option maxHeartbeats 4000000 in
theorem c_X12_word (l : Launch) (D : va_G) (aC : Nat → ClassId) (zs : Nat × Nat) (A : Nat → Prop) (nl : zNL) (ad : Nat → Nat → Nat → Nat) (σ : zM) (x1 : Int32) (x2 : Int32) (x3 : Int32) (r : Int32)  (hf : f_X12_word σ x1 x2 x3 = some r) : Met l yX12_word (Cond.code yX12_word cX12_word 8 (some .int) :: wsL_law) ({ frames := 4, cells := 0, slots := 0, locals := 96 } : Room) (zP D aC zs zfM A nl ad σ [.ref (ad 12 0 0), .int x1, .int x2, .int x3]) (zQ (some (.int r)) (fun t => zG D aC A nl ad σ t t.heap ∧ True) A) 0 0 A := by
  refine Met.ofW (cc := cX12_word) (maxL := 8) (ret := (some .int)) (by decide) rfl ?_
  intro p e s m args below meth c s₁ B hml hv
  obtain ⟨rfl, hG, hZ⟩ := hv
  have hx := B.exec
  have hb := B.bytes
  have hr := B.returns
  have hts : ∀ w ∈ wsL_law, w.before ([.ref (ad 12 0 0), .int x1, .int x2, .int x3] : List Value).toArray s = true := fun w h => (atoms_spec B.pre) w (List.mem_cons_of_mem _ h)
  have hown : s.vm.findClass RX12 = some m.cls := findClass_of_methodNamed B.named
  have hlocks := B.notSynchronized
  have S : zS p m c cX12_word 8 s ([.ref (ad 12 0 0), .int x1, .int x2, .int x3] : List Value).toArray RX12 := ⟨hx, hb, hml, hown, hts⟩
  have hS : va_S A s.heap s.heap [] := va_S.rf
  have hl := lv_entry ([.ref (ad 12 0 0), .int x1, .int x2, .int x3]) (n := 8) (Nat.le_of_ble_eq_true rfl)
  rw [lg_entry_eq]
  generalize (lg_sl ([.ref (ad 12 0 0), .int x1, .int x2, .int x3]) ++ List.replicate (8 - (lg_sl ([.ref (ad 12 0 0), .int x1, .int x2, .int x3])).length) Slot.unset).toArray = ls at hl ⊢
  have hl : lv_has ls 8 [(0, .ref (ad 12 0 0)), (1, .int x1), (2, .int x2), (3, .int x3)] := hl
  generalize hargs : ([.ref (ad 12 0 0), .int x1, .int x2, .int x3] : List Value).toArray = args at S hts ⊢
  clear hargs
  have KJ199 : ∀ (t0b199 : Int32)   (H : Heap) (locs : List Loc) (ls : Array Slot), zG D aC A nl ad σ s H → va_S A s.heap H locs → lv_has ls 8 [(0, .ref (ad 12 0 0)), (1, .int x1), (2, .int x2), (3, .int x3)] → (f_X12_word_B199 σ x1 x2 x3 t0b199) = some r → zWk p l e ({ frames := 4, cells := 0, slots := 0, locals := 96 } : Room) s m args below meth c A (some (.int r)) (fun t => zG D aC A nl ad σ t t.heap ∧ True) H locs (F0 m 199 ls [.int t0b199]) := by
    intro t0b199   H locs ls hG hS hl hf
    unfold f_X12_word_B199 at hf
    refine lv_aload_n hx hb dX12_word_199 rfl (lv_at hl 0 rfl) ?_
    refine lv_iload_n hx hb dX12_word_200 rfl (lv_at hl 2 rfl) ?_
    refine lv_iconst (v := 4) hx hb dX12_word_201 (by decide) ?_
    obtain ⟨r91, er91, hf⟩ := zbi hf
    refine z_callV (n := 2) (rest := [.int t0b199]) (st1 := [.int r91, .int t0b199]) (c0 := 12) (i0 := 0) (hZ.2.1 (12, 0) (by decide)) (by rfl) S hG hS hZ (fun _ _ h => h) (c_X12_tells l D aC zs A nl ad σ x2 4 r91 er91) zw_724 zw_725 zw_726 zw_5 zw_727 (by decide +kernel) ⟨rfl, rfl⟩ ⟨(Nat.le_of_ble_eq_true rfl), (Nat.le_of_ble_eq_true rfl)⟩ hl.1 rfl (by rfl) (by rfl) (Nat.le_of_ble_eq_true rfl) dX12_word_202 ⟨Nat.zero_le _, Nat.zero_le _⟩ (fun H locs hz92 hG hS => ?_)
    have Kv95 : ∀ (v95 : Int32) (ls : Array Slot), lv_has ls 8 [(0, .ref (ad 12 0 0)), (1, .int x1), (2, .int x2), (3, .int x3)] → (some (f_X12_one v95)) = some r → zWk p l e ({ frames := 4, cells := 0, slots := 0, locals := 96 } : Room) s m args below meth c A (some (.int r)) (fun t => zG D aC A nl ad σ t t.heap ∧ True) H locs (F0 m 213 ls [.int v95]) := by
      intro v95 ls hl hf
      refine z_callS (n := 1) (rest := []) (st1 := [.int (f_X12_one v95)]) S hG hS hZ (fun _ _ h => h) (c_X12_one l D aC zs A nl ad σ v95 (f_X12_one v95) rfl) zw_903 zw_904 zw_5 zw_905 (by decide +kernel) ⟨rfl, rfl⟩ ⟨(Nat.le_of_ble_eq_true rfl), (Nat.le_of_ble_eq_true rfl)⟩ hl.1 rfl (by rfl) (by rfl) (Nat.le_of_ble_eq_true rfl) dX12_word_213 ⟨Nat.zero_le _, Nat.zero_le _⟩ (fun H locs hz97 hG hS => ?_)
      have hq := (Option.some.inj hf)
      subst hq
      exact z_iret S hG hS hlocks trivial hr dX12_word_216
    refine lv_icmp_le (tgt := 212) hx hb dX12_word_205 (by decide) (fun c94 => ?_) (fun c94 => ?_)
    · rw [if_pos c94] at hf
      refine lv_iconst (v := 0) hx hb dX12_word_212 (by decide) ?_
      exact Kv95 _ ls hl hf
    · rw [if_neg c94] at hf
      refine lv_iconst (v := 1) hx hb dX12_word_208 (by decide) ?_
      refine lv_goto (tgt := 213) hx hb dX12_word_209 (by decide) ?_
      exact Kv95 _ ls hl hf
  have hK0 : ∀ (H : Heap) (locs : List Loc) (ls : Array Slot), zG D aC A nl ad σ s H → va_S A s.heap H locs → lv_has ls 8 [(0, .ref (ad 12 0 0)), (1, .int x1), (2, .int x2), (3, .int x3)] → f_X12_word σ x1 x2 x3 = some r → zWk p l e ({ frames := 4, cells := 0, slots := 0, locals := 96 } : Room) s m args below meth c A (some (.int r)) (fun t => zG D aC A nl ad σ t t.heap ∧ True) H locs (F0 m 0 ls []) := by
    intro H locs ls hG hS hl hf
    unfold f_X12_word at hf
    refine lv_iconst (v := 0) hx hb dX12_word_0 (by decide) ?_
    refine lv_istore (lv' := [(4, .int 0), (0, .ref (ad 12 0 0)), (1, .int x1), (2, .int x2), (3, .int x3)]) hx hb dX12_word_1 hl (by decide) rfl (fun ls hl => ?_)
    refine lv_iload_n hx hb dX12_word_3 rfl (lv_at hl 4 rfl) ?_
    by_cases c33 : x3 = 0
    · have hf := zif_p c33 hf
      refine lv_tableIn (x := x3) (off := 44) (tgt := 48) hx hb dX12_word_4 (by rw [c33]; decide) (by rw [c33]; decide) (by rw [c33]; decide) (by decide) ?_
      refine lv_sipush (v := 160) hx hb dX12_word_48 (by decide) ?_
      refine lv_aload_n hx hb dX12_word_51 rfl (lv_at hl 1 rfl) ?_
      refine lv_iload_n hx hb dX12_word_52 rfl (lv_at hl 2 rfl) ?_
      refine lv_iconst (v := 0) hx hb dX12_word_53 (by decide) ?_
      obtain ⟨r34, er34, hf⟩ := zbi hf
      refine z_callV (n := 2) (rest := [.int 160]) (st1 := [.int r34, .int 160]) (c0 := 12) (i0 := 0) (hZ.2.1 (12, 0) (by decide)) (by rfl) S hG hS hZ (fun _ _ h => h) (c_X12_manyOf l D aC zs A nl ad σ x1 0 r34 er34) zw_895 zw_896 zw_897 zw_5 zw_898 (by decide +kernel) ⟨rfl, rfl⟩ ⟨(Nat.le_of_ble_eq_true rfl), (Nat.le_of_ble_eq_true rfl)⟩ hl.1 rfl (by rfl) (by rfl) (Nat.le_of_ble_eq_true rfl) dX12_word_54 ⟨Nat.zero_le _, Nat.zero_le _⟩ (fun H locs hz35 hG hS => ?_)
      refine lv_isub hx hb dX12_word_57 ?_
      have hq := (Option.some.inj hf)
      subst hq
      exact z_iret S hG hS hlocks trivial hr dX12_word_58
    · have hf := zif_n c33 hf
      by_cases c36 : x3 = 1
      · have hf := zif_p c36 hf
        refine lv_tableIn (x := x3) (off := 55) (tgt := 59) hx hb dX12_word_4 (by rw [c36]; decide) (by rw [c36]; decide) (by rw [c36]; decide) (by decide) ?_
        refine lv_aload_n hx hb dX12_word_59 rfl (lv_at hl 1 rfl) ?_
        refine lv_iload_n hx hb dX12_word_60 rfl (lv_at hl 2 rfl) ?_
        refine lv_iload_n hx hb dX12_word_61 rfl (lv_at hl 3 rfl) ?_
        obtain ⟨r37, er37, hf⟩ := zbi hf
        refine z_callV (n := 2) (rest := []) (st1 := [.int r37]) (c0 := 12) (i0 := 0) (hZ.2.1 (12, 0) (by decide)) (by rfl) S hG hS hZ (fun _ _ h => h) (c_X12_costBy l D aC zs A nl ad σ x1 x2 r37 er37) zw_962 zw_963 zw_964 zw_5 zw_965 (by decide +kernel) ⟨rfl, rfl⟩ ⟨(Nat.le_of_ble_eq_true rfl), (Nat.le_of_ble_eq_true rfl)⟩ hl.1 rfl (by rfl) (by rfl) (Nat.le_of_ble_eq_true rfl) dX12_word_62 ⟨Nat.zero_le _, Nat.zero_le _⟩ (fun H locs hz38 hG hS => ?_)
        have hq := (Option.some.inj hf)
        subst hq
        exact z_iret S hG hS hlocks trivial hr dX12_word_65
      · have hf := zif_n c36 hf
        by_cases c39 : x3 = 2
        · have hf := zif_p c39 hf
          refine lv_tableIn (x := x3) (off := 62) (tgt := 66) hx hb dX12_word_4 (by rw [c39]; decide) (by rw [c39]; decide) (by rw [c39]; decide) (by decide) ?_
          refine lv_aload_n hx hb dX12_word_66 rfl (lv_at hl 1 rfl) ?_
          refine lv_iload_n hx hb dX12_word_67 rfl (lv_at hl 2 rfl) ?_
          refine lv_bipush (v := 13) hx hb dX12_word_68 (by decide) ?_
          obtain ⟨r40, er40, hf⟩ := zbi hf
          refine z_callV (n := 2) (rest := []) (st1 := [.int r40]) (c0 := 12) (i0 := 0) (hZ.2.1 (12, 0) (by decide)) (by rfl) S hG hS hZ (fun _ _ h => h) (c_X12_manyOf l D aC zs A nl ad σ x1 13 r40 er40) zw_895 zw_896 zw_897 zw_5 zw_898 (by decide +kernel) ⟨rfl, rfl⟩ ⟨(Nat.le_of_ble_eq_true rfl), (Nat.le_of_ble_eq_true rfl)⟩ hl.1 rfl (by rfl) (by rfl) (Nat.le_of_ble_eq_true rfl) dX12_word_70 ⟨Nat.zero_le _, Nat.zero_le _⟩ (fun H locs hz41 hG hS => ?_)
          have hq := (Option.some.inj hf)
          subst hq
          exact z_iret S hG hS hlocks trivial hr dX12_word_73
        · have hf := zif_n c39 hf
          by_cases c42 : x3 = 3
          · have hf := zif_p c42 hf
            refine lv_tableIn (x := x3) (off := 70) (tgt := 74) hx hb dX12_word_4 (by rw [c42]; decide) (by rw [c42]; decide) (by rw [c42]; decide) (by decide) ?_
            refine lv_aload_n hx hb dX12_word_74 rfl (lv_at hl 1 rfl) ?_
            refine lv_iload_n hx hb dX12_word_75 rfl (lv_at hl 2 rfl) ?_
            refine lv_bipush (v := 14) hx hb dX12_word_76 (by decide) ?_
            obtain ⟨r43, er43, hf⟩ := zbi hf
            refine z_callV (n := 2) (rest := []) (st1 := [.int r43]) (c0 := 12) (i0 := 0) (hZ.2.1 (12, 0) (by decide)) (by rfl) S hG hS hZ (fun _ _ h => h) (c_X12_manyOf l D aC zs A nl ad σ x1 14 r43 er43) zw_895 zw_896 zw_897 zw_5 zw_898 (by decide +kernel) ⟨rfl, rfl⟩ ⟨(Nat.le_of_ble_eq_true rfl), (Nat.le_of_ble_eq_true rfl)⟩ hl.1 rfl (by rfl) (by rfl) (Nat.le_of_ble_eq_true rfl) dX12_word_78 ⟨Nat.zero_le _, Nat.zero_le _⟩ (fun H locs hz44 hG hS => ?_)
            have hq := (Option.some.inj hf)
            subst hq
            exact z_iret S hG hS hlocks trivial hr dX12_word_81
          · have hf := zif_n c42 hf
            by_cases c45 : x3 = 4
            · have hf := zif_p c45 hf
              refine lv_tableIn (x := x3) (off := 78) (tgt := 82) hx hb dX12_word_4 (by rw [c45]; decide) (by rw [c45]; decide) (by rw [c45]; decide) (by decide) ?_
              refine lv_iconst (v := 1) hx hb dX12_word_82 (by decide) ?_
              refine lv_istore (lv' := [(5, .int 1), (4, .int 0), (0, .ref (ad 12 0 0)), (1, .int x1), (2, .int x2), (3, .int x3)]) hx hb dX12_word_83 hl (by decide) rfl (fun ls hl => ?_)
              obtain ⟨t85, hw85, hfo85⟩ := zbi hf
              have KL85 : ∀ (n : Nat) (y4l85 : Int32) (y5l85 : Int32) (H : Heap) (locs : List Loc) (ls : Array Slot), zG D aC A nl ad σ s H → va_S A s.heap H locs → lv_has ls 8 [(0, .ref (ad 12 0 0)), (1, .int x1), (2, .int x2), (3, .int x3), (4, .int y4l85), (5, .int y5l85)] → zwh (fun (q : (Int32 × Int32)) => f_X12_word_L85 σ x1 x2 x3 q.1 q.2) n (y4l85, y5l85) = some t85 → zWk p l e ({ frames := 4, cells := 0, slots := 0, locals := 96 } : Room) s m args below meth c A (some (.int r)) (fun t => zG D aC A nl ad σ t t.heap ∧ True) H locs (F0 m 85 ls []) := by
                intro n
                induction n with
                | zero =>
                  intro y4l85 y5l85 H locs ls hG hS hl hw
                  exact (zwh_0 hw).elim
                | succ n ih85 =>
                  intro y4l85 y5l85 H locs ls hG hS hl hw
                  obtain ⟨rr85, hf, hk85⟩ := zwh_u hw
                  have hf : f_X12_word_L85 σ x1 x2 x3 y4l85 y5l85 = some rr85 := hf
                  unfold f_X12_word_L85 at hf
                  refine lv_iload hx hb dX12_word_85 (lv_at hl 5 rfl) ?_
                  refine lv_bipush (v := 12) hx hb dX12_word_87 (by decide) ?_
                  refine lv_icmp_gt (tgt := 121) hx hb dX12_word_89 (by decide) (fun c54 => ?_) (fun c54 => ?_)
                  · have hf := zif_p c54 hf
                    cases hf
                    have hk85 : (y4l85 : Int32) = t85 := hk85
                    have hf := hfo85
                    rw [← hk85] at hf
                    have hf : (some y4l85) = some r := hf
                    refine lv_iload hx hb dX12_word_121 (lv_at hl 4 rfl) ?_
                    have hq := (Option.some.inj hf)
                    subst hq
                    exact z_iret S hG hS hlocks trivial hr dX12_word_123
                  · have hf := zif_n c54 hf
                    refine lv_iload hx hb dX12_word_92 (lv_at hl 4 rfl) ?_
                    refine lv_aload_n hx hb dX12_word_94 rfl (lv_at hl 0 rfl) ?_
                    refine lv_iload_n hx hb dX12_word_95 rfl (lv_at hl 1 rfl) ?_
                    refine lv_iload hx hb dX12_word_96 (lv_at hl 5 rfl) ?_
                    obtain ⟨r55, er55, hf⟩ := zbi hf
                    refine z_callV (n := 2) (rest := [.int y4l85]) (st1 := [.int r55, .int y4l85]) (c0 := 12) (i0 := 0) (hZ.2.1 (12, 0) (by decide)) (by rfl) S hG hS hZ (fun _ _ h => h) (c_X12_manyOf l D aC zs A nl ad σ x1 y5l85 r55 er55) zw_895 zw_896 zw_897 zw_5 zw_898 (by decide +kernel) ⟨rfl, rfl⟩ ⟨(Nat.le_of_ble_eq_true rfl), (Nat.le_of_ble_eq_true rfl)⟩ hl.1 rfl (by rfl) (by rfl) (Nat.le_of_ble_eq_true rfl) dX12_word_98 ⟨Nat.zero_le _, Nat.zero_le _⟩ (fun H locs hz56 hG hS => ?_)
                    have Kv59 : ∀ (v59 : Int32) (ls : Array Slot), lv_has ls 8 [(0, .ref (ad 12 0 0)), (1, .int x1), (2, .int x2), (3, .int x3), (4, .int y4l85), (5, .int y5l85)] → (some (.inl ((y4l85 + (f_X12_one v59)), (y5l85 + 1)))) = some rr85 → zWk p l e ({ frames := 4, cells := 0, slots := 0, locals := 96 } : Room) s m args below meth c A (some (.int r)) (fun t => zG D aC A nl ad σ t t.heap ∧ True) H locs (F0 m 109 ls [.int v59, .int y4l85]) := by
                      intro v59 ls hl hf
                      refine z_callS (n := 1) (rest := [.int y4l85]) (st1 := [.int (f_X12_one v59), .int y4l85]) S hG hS hZ (fun _ _ h => h) (c_X12_one l D aC zs A nl ad σ v59 (f_X12_one v59) rfl) zw_903 zw_904 zw_5 zw_905 (by decide +kernel) ⟨rfl, rfl⟩ ⟨(Nat.le_of_ble_eq_true rfl), (Nat.le_of_ble_eq_true rfl)⟩ hl.1 rfl (by rfl) (by rfl) (Nat.le_of_ble_eq_true rfl) dX12_word_109 ⟨Nat.zero_le _, Nat.zero_le _⟩ (fun H locs hz61 hG hS => ?_)
                      refine lv_iadd hx hb dX12_word_112 ?_
                      refine lv_istore (lv' := [(4, .int (y4l85 + (f_X12_one v59))), (0, .ref (ad 12 0 0)), (1, .int x1), (2, .int x2), (3, .int x3), (5, .int y5l85)]) hx hb dX12_word_113 hl (by decide) rfl (fun ls hl => ?_)
                      refine lv_iinc (v := (y5l85 + 1)) (lv' := [(5, .int (y5l85 + 1)), (4, .int (y4l85 + (f_X12_one v59))), (0, .ref (ad 12 0 0)), (1, .int x1), (2, .int x2), (3, .int x3)]) hx hb dX12_word_115 hl (k := 5) rfl rfl (by decide) rfl (fun ls hl => ?_)
                      refine lv_goto (tgt := 85) hx hb dX12_word_118 (by decide) ?_
                      cases hf
                      exact ih85 (y4l85 + (f_X12_one v59)) (y5l85 + 1) H locs ls hG hS (lv_sub hl [2, 3, 4, 5, 1, 0] rfl) hk85
                    refine lv_if_le (tgt := 108) hx hb dX12_word_101 (by decide) (fun c58 => ?_) (fun c58 => ?_)
                    · rw [if_pos c58] at hf
                      refine lv_iconst (v := 0) hx hb dX12_word_108 (by decide) ?_
                      exact Kv59 _ ls hl hf
                    · rw [if_neg c58] at hf
                      refine lv_iconst (v := 1) hx hb dX12_word_104 (by decide) ?_
                      refine lv_goto (tgt := 109) hx hb dX12_word_105 (by decide) ?_
                      exact Kv59 _ ls hl hf
              exact KL85 zFu 0 1 H locs ls hG hS (lv_sub hl [2, 3, 4, 5, 1, 0] rfl) hw85
            · have hf := zif_n c45 hf
              by_cases c62 : x3 = 5
              · have hf := zif_p c62 hf
                refine lv_tableIn (x := x3) (off := 120) (tgt := 124) hx hb dX12_word_4 (by rw [c62]; decide) (by rw [c62]; decide) (by rw [c62]; decide) (by decide) ?_
                refine lv_iconst (v := 1) hx hb dX12_word_124 (by decide) ?_
                refine lv_istore (lv' := [(5, .int 1), (4, .int 0), (0, .ref (ad 12 0 0)), (1, .int x1), (2, .int x2), (3, .int x3)]) hx hb dX12_word_125 hl (by decide) rfl (fun ls hl => ?_)
                obtain ⟨t127, hw127, hfo127⟩ := zbi hf
                have KL127 : ∀ (n : Nat) (y4l127 : Int32) (y5l127 : Int32) (H : Heap) (locs : List Loc) (ls : Array Slot), zG D aC A nl ad σ s H → va_S A s.heap H locs → lv_has ls 8 [(0, .ref (ad 12 0 0)), (1, .int x1), (2, .int x2), (3, .int x3), (4, .int y4l127), (5, .int y5l127)] → zwh (fun (q : (Int32 × Int32)) => f_X12_word_L127 σ x1 x2 x3 q.1 q.2) n (y4l127, y5l127) = some t127 → zWk p l e ({ frames := 4, cells := 0, slots := 0, locals := 96 } : Room) s m args below meth c A (some (.int r)) (fun t => zG D aC A nl ad σ t t.heap ∧ True) H locs (F0 m 127 ls []) := by
                  intro n
                  induction n with
                  | zero =>
                    intro y4l127 y5l127 H locs ls hG hS hl hw
                    exact (zwh_0 hw).elim
                  | succ n ih127 =>
                    intro y4l127 y5l127 H locs ls hG hS hl hw
                    obtain ⟨rr127, hf, hk127⟩ := zwh_u hw
                    have hf : f_X12_word_L127 σ x1 x2 x3 y4l127 y5l127 = some rr127 := hf
                    unfold f_X12_word_L127 at hf
                    have KJ161_127 : ∀ (y5b161 : Int32) (t0b161 : Int32) (t1b161 : Int32)   (H : Heap) (locs : List Loc) (ls : Array Slot), zG D aC A nl ad σ s H → va_S A s.heap H locs → lv_has ls 8 [(0, .ref (ad 12 0 0)), (1, .int x1), (2, .int x2), (3, .int x3), (5, .int y5b161)] → (f_X12_word_B161_127 σ x1 x2 x3 y5b161 t0b161 t1b161) = some rr127 → zWk p l e ({ frames := 4, cells := 0, slots := 0, locals := 96 } : Room) s m args below meth c A (some (.int r)) (fun t => zG D aC A nl ad σ t t.heap ∧ True) H locs (F0 m 161 ls [.int t1b161, .int t0b161]) := by
                      intro y5b161 t0b161 t1b161   H locs ls hG hS hl hf
                      unfold f_X12_word_B161_127 at hf
                      refine z_callS (n := 1) (rest := [.int t0b161]) (st1 := [.int (f_X12_one t1b161), .int t0b161]) S hG hS hZ (fun _ _ h => h) (c_X12_one l D aC zs A nl ad σ t1b161 (f_X12_one t1b161) rfl) zw_903 zw_904 zw_5 zw_905 (by decide +kernel) ⟨rfl, rfl⟩ ⟨(Nat.le_of_ble_eq_true rfl), (Nat.le_of_ble_eq_true rfl)⟩ hl.1 rfl (by rfl) (by rfl) (Nat.le_of_ble_eq_true rfl) dX12_word_161 ⟨Nat.zero_le _, Nat.zero_le _⟩ (fun H locs hz79 hG hS => ?_)
                      refine lv_iadd hx hb dX12_word_164 ?_
                      refine lv_istore (lv' := [(4, .int (t0b161 + (f_X12_one t1b161))), (0, .ref (ad 12 0 0)), (1, .int x1), (2, .int x2), (3, .int x3), (5, .int y5b161)]) hx hb dX12_word_165 hl (by decide) rfl (fun ls hl => ?_)
                      refine lv_iinc (v := (y5b161 + 1)) (lv' := [(5, .int (y5b161 + 1)), (4, .int (t0b161 + (f_X12_one t1b161))), (0, .ref (ad 12 0 0)), (1, .int x1), (2, .int x2), (3, .int x3)]) hx hb dX12_word_167 hl (k := 5) rfl rfl (by decide) rfl (fun ls hl => ?_)
                      refine lv_goto (tgt := 127) hx hb dX12_word_170 (by decide) ?_
                      cases hf
                      exact ih127 (t0b161 + (f_X12_one t1b161)) (y5b161 + 1) H locs ls hG hS (lv_sub hl [2, 3, 4, 5, 1, 0] rfl) hk127
                    have KJ160_127 : ∀ (y5b160 : Int32) (t0b160 : Int32)   (H : Heap) (locs : List Loc) (ls : Array Slot), zG D aC A nl ad σ s H → va_S A s.heap H locs → lv_has ls 8 [(0, .ref (ad 12 0 0)), (1, .int x1), (2, .int x2), (3, .int x3), (5, .int y5b160)] → (f_X12_word_B160_127 σ x1 x2 x3 y5b160 t0b160) = some rr127 → zWk p l e ({ frames := 4, cells := 0, slots := 0, locals := 96 } : Room) s m args below meth c A (some (.int r)) (fun t => zG D aC A nl ad σ t t.heap ∧ True) H locs (F0 m 160 ls [.int t0b160]) := by
                      intro y5b160 t0b160   H locs ls hG hS hl hf
                      unfold f_X12_word_B160_127 at hf
                      refine lv_iconst (v := 0) hx hb dX12_word_160 (by decide) ?_
                      exact KJ161_127 y5b160 t0b160 0 H locs ls hG hS (lv_sub hl [0, 1, 2, 3, 4] rfl) hf
                    refine lv_iload hx hb dX12_word_127 (lv_at hl 5 rfl) ?_
                    refine lv_bipush (v := 12) hx hb dX12_word_129 (by decide) ?_
                    refine lv_icmp_gt (tgt := 173) hx hb dX12_word_131 (by decide) (fun c75 => ?_) (fun c75 => ?_)
                    · have hf := zif_p c75 hf
                      cases hf
                      have hk127 : (y4l127 : Int32) = t127 := hk127
                      have hf := hfo127
                      rw [← hk127] at hf
                      have hf : (some y4l127) = some r := hf
                      refine lv_iload hx hb dX12_word_173 (lv_at hl 4 rfl) ?_
                      have hq := (Option.some.inj hf)
                      subst hq
                      exact z_iret S hG hS hlocks trivial hr dX12_word_175
                    · have hf := zif_n c75 hf
                      refine lv_iload hx hb dX12_word_134 (lv_at hl 4 rfl) ?_
                      refine lv_aload_n hx hb dX12_word_136 rfl (lv_at hl 0 rfl) ?_
                      refine lv_iload_n hx hb dX12_word_137 rfl (lv_at hl 1 rfl) ?_
                      refine lv_iload hx hb dX12_word_138 (lv_at hl 5 rfl) ?_
                      obtain ⟨r76, er76, hf⟩ := zbi hf
                      refine z_callV (n := 2) (rest := [.int y4l127]) (st1 := [.int r76, .int y4l127]) (c0 := 12) (i0 := 0) (hZ.2.1 (12, 0) (by decide)) (by rfl) S hG hS hZ (fun _ _ h => h) (c_X12_manyOf l D aC zs A nl ad σ x1 y5l127 r76 er76) zw_895 zw_896 zw_897 zw_5 zw_898 (by decide +kernel) ⟨rfl, rfl⟩ ⟨(Nat.le_of_ble_eq_true rfl), (Nat.le_of_ble_eq_true rfl)⟩ hl.1 rfl (by rfl) (by rfl) (Nat.le_of_ble_eq_true rfl) dX12_word_140 ⟨Nat.zero_le _, Nat.zero_le _⟩ (fun H locs hz77 hG hS => ?_)
                      refine lv_if_le (tgt := 160) hx hb dX12_word_143 (by decide) (fun c78 => ?_) (fun c78 => ?_)
                      · have hf := zif_p c78 hf
                        exact KJ160_127 y5l127 y4l127 H locs ls hG hS (lv_sub hl [0, 1, 2, 3, 5] rfl) hf
                      · have hf := zif_n c78 hf
                        refine lv_aload_n hx hb dX12_word_146 rfl (lv_at hl 0 rfl) ?_
                        refine lv_iload_n hx hb dX12_word_147 rfl (lv_at hl 1 rfl) ?_
                        refine lv_iload hx hb dX12_word_148 (lv_at hl 5 rfl) ?_
                        obtain ⟨r80, er80, hf⟩ := zbi hf
                        refine z_callV (n := 2) (rest := [.int y4l127]) (st1 := [.int r80, .int y4l127]) (c0 := 12) (i0 := 0) (hZ.2.1 (12, 0) (by decide)) (by rfl) S hG hS hZ (fun _ _ h => h) (c_X12_lightOf l D aC zs A nl ad σ x1 y5l127 r80 er80) zw_906 zw_907 zw_908 zw_5 zw_909 (by decide +kernel) ⟨rfl, rfl⟩ ⟨(Nat.le_of_ble_eq_true rfl), (Nat.le_of_ble_eq_true rfl)⟩ hl.1 rfl (by rfl) (by rfl) (Nat.le_of_ble_eq_true rfl) dX12_word_150 ⟨Nat.zero_le _, Nat.zero_le _⟩ (fun H locs hz81 hG hS => ?_)
                        have Kv84 : ∀ (v84 : Int32) (ls : Array Slot), lv_has ls 8 [(0, .ref (ad 12 0 0)), (1, .int x1), (2, .int x2), (3, .int x3), (4, .int y4l127), (5, .int y5l127)] → (some (.inl ((y4l127 + (f_X12_one v84)), (y5l127 + 1)))) = some rr127 → zWk p l e ({ frames := 4, cells := 0, slots := 0, locals := 96 } : Room) s m args below meth c A (some (.int r)) (fun t => zG D aC A nl ad σ t t.heap ∧ True) H locs (F0 m 161 ls [.int v84, .int y4l127]) := by
                          intro v84 ls hl hf
                          refine z_callS (n := 1) (rest := [.int y4l127]) (st1 := [.int (f_X12_one v84), .int y4l127]) S hG hS hZ (fun _ _ h => h) (c_X12_one l D aC zs A nl ad σ v84 (f_X12_one v84) rfl) zw_903 zw_904 zw_5 zw_905 (by decide +kernel) ⟨rfl, rfl⟩ ⟨(Nat.le_of_ble_eq_true rfl), (Nat.le_of_ble_eq_true rfl)⟩ hl.1 rfl (by rfl) (by rfl) (Nat.le_of_ble_eq_true rfl) dX12_word_161 ⟨Nat.zero_le _, Nat.zero_le _⟩ (fun H locs hz86 hG hS => ?_)
                          refine lv_iadd hx hb dX12_word_164 ?_
                          refine lv_istore (lv' := [(4, .int (y4l127 + (f_X12_one v84))), (0, .ref (ad 12 0 0)), (1, .int x1), (2, .int x2), (3, .int x3), (5, .int y5l127)]) hx hb dX12_word_165 hl (by decide) rfl (fun ls hl => ?_)
                          refine lv_iinc (v := (y5l127 + 1)) (lv' := [(5, .int (y5l127 + 1)), (4, .int (y4l127 + (f_X12_one v84))), (0, .ref (ad 12 0 0)), (1, .int x1), (2, .int x2), (3, .int x3)]) hx hb dX12_word_167 hl (k := 5) rfl rfl (by decide) rfl (fun ls hl => ?_)
                          refine lv_goto (tgt := 127) hx hb dX12_word_170 (by decide) ?_
                          cases hf
                          exact ih127 (y4l127 + (f_X12_one v84)) (y5l127 + 1) H locs ls hG hS (lv_sub hl [2, 3, 4, 5, 1, 0] rfl) hk127
                        refine lv_if_ne (tgt := 160) hx hb dX12_word_153 (by decide) (fun c83 => ?_) (fun c83 => ?_)
                        · rw [if_neg c83] at hf
                          refine lv_iconst (v := 0) hx hb dX12_word_160 (by decide) ?_
                          exact Kv84 _ ls hl hf
                        · rw [if_pos c83] at hf
                          refine lv_iconst (v := 1) hx hb dX12_word_156 (by decide) ?_
                          refine lv_goto (tgt := 161) hx hb dX12_word_157 (by decide) ?_
                          exact Kv84 _ ls hl hf
                exact KL127 zFu 0 1 H locs ls hG hS (lv_sub hl [2, 3, 4, 5, 1, 0] rfl) hw127
              · have hf := zif_n c62 hf
                by_cases c87 : x3 = 6
                · have hf := zif_p c87 hf
                  refine lv_tableIn (x := x3) (off := 172) (tgt := 176) hx hb dX12_word_4 (by rw [c87]; decide) (by rw [c87]; decide) (by rw [c87]; decide) (by decide) ?_
                  refine lv_aload_n hx hb dX12_word_176 rfl (lv_at hl 1 rfl) ?_
                  refine z_get (c0 := 12) (i0 := 0) (k0 := 5) (T := TX12) (v := .ref (ad 12 0 6)) S hG (hZ.2.1 (12, 0) (by decide)) rfl inlX12 (by decide) rfl zw_227 rfl dX12_word_177 ?_
                  refine lv_iload_n hx hb dX12_word_180 rfl (lv_at hl 2 rfl) ?_
                  obtain ⟨i88, hi88, hf⟩ := zbi hf
                  refine z_iald (c0 := 12) (i0 := 0) (k0 := 5) S hG (hZ.2.1 (12, 0) (by decide)) (by decide) rfl hi88 dX12_word_181 ?_
                  refine lv_iconst (v := (-1)) hx hb dX12_word_182 (by decide) ?_
                  refine lv_icmp_ne (tgt := 193) hx hb dX12_word_183 (by decide) (fun c89 => ?_) (fun c89 => ?_)
                  · have hf := zif_n c89 hf
                    refine lv_aload_n hx hb dX12_word_193 rfl (lv_at hl 1 rfl) ?_
                    refine z_get (c0 := 12) (i0 := 0) (k0 := 5) (T := TX12) (v := .ref (ad 12 0 6)) S hG (hZ.2.1 (12, 0) (by decide)) rfl inlX12 (by decide) rfl zw_227 rfl dX12_word_194 ?_
                    refine lv_iload_n hx hb dX12_word_197 rfl (lv_at hl 2 rfl) ?_
                    obtain ⟨i90, hi90, hf⟩ := zbi hf
                    refine z_iald (c0 := 12) (i0 := 0) (k0 := 5) S hG (hZ.2.1 (12, 0) (by decide)) (by decide) rfl hi90 dX12_word_198 ?_
                    exact KJ199 (zA σ 12 0 5 i90) H locs ls hG hS (lv_sub hl [1, 2, 3, 4] rfl) hf
                  · have hf := zif_p c89 hf
                    refine lv_aload_n hx hb dX12_word_186 rfl (lv_at hl 1 rfl) ?_
                    refine z_get (c0 := 12) (i0 := 0) (k0 := 0) (T := TX12) (v := .int (zI σ 12 0 0)) S hG (hZ.2.1 (12, 0) (by decide)) rfl inlX12 (by decide) rfl zw_278 rfl dX12_word_187 ?_
                    refine lv_goto (tgt := 199) hx hb dX12_word_190 (by decide) ?_
                    exact KJ199 (zI σ 12 0 0) H locs ls hG hS (lv_sub hl [1, 2, 3, 4] rfl) hf
                · have hf := zif_n c87 hf
                  have hout : x3.toInt < 0 ∨ 6 < x3.toInt := by
                    rcases (show x3.toInt < 0 ∨ 6 < x3.toInt ∨ x3.toInt = 0 ∨ x3.toInt = 1 ∨ x3.toInt = 2 ∨ x3.toInt = 3 ∨ x3.toInt = 4 ∨ x3.toInt = 5 ∨ x3.toInt = 6 by omega) with h | h | h | h | h | h | h | h | h
                    · exact Or.inl h
                    · exact Or.inr h
                    · exact absurd (Int32.toInt_inj.mp (h.trans (by decide : (0 : Int) = (0 : Int32).toInt))) c33
                    · exact absurd (Int32.toInt_inj.mp (h.trans (by decide : (1 : Int) = (1 : Int32).toInt))) c36
                    · exact absurd (Int32.toInt_inj.mp (h.trans (by decide : (2 : Int) = (2 : Int32).toInt))) c39
                    · exact absurd (Int32.toInt_inj.mp (h.trans (by decide : (3 : Int) = (3 : Int32).toInt))) c42
                    · exact absurd (Int32.toInt_inj.mp (h.trans (by decide : (4 : Int) = (4 : Int32).toInt))) c45
                    · exact absurd (Int32.toInt_inj.mp (h.trans (by decide : (5 : Int) = (5 : Int32).toInt))) c62
                    · exact absurd (Int32.toInt_inj.mp (h.trans (by decide : (6 : Int) = (6 : Int32).toInt))) c87
                  refine lv_tableOut (x := x3) (tgt := 217) hx hb dX12_word_4 hout (by decide) ?_
                  refine lv_iconst (v := 0) hx hb dX12_word_217 (by decide) ?_
                  refine lv_istore (lv' := [(5, .int 0), (4, .int 0), (0, .ref (ad 12 0 0)), (1, .int x1), (2, .int x2), (3, .int x3)]) hx hb dX12_word_218 hl (by decide) rfl (fun ls hl => ?_)
                  obtain ⟨t220, hw220, hfo220⟩ := zbi hf
                  have KL220 : ∀ (n : Nat) (y4l220 : Int32) (y5l220 : Int32) (H : Heap) (locs : List Loc) (ls : Array Slot), zG D aC A nl ad σ s H → va_S A s.heap H locs → lv_has ls 8 [(0, .ref (ad 12 0 0)), (1, .int x1), (2, .int x2), (3, .int x3), (4, .int y4l220), (5, .int y5l220)] → zwh (fun (q : (Int32 × Int32)) => f_X12_word_L220 σ x1 x2 x3 q.1 q.2) n (y4l220, y5l220) = some t220 → zWk p l e ({ frames := 4, cells := 0, slots := 0, locals := 96 } : Room) s m args below meth c A (some (.int r)) (fun t => zG D aC A nl ad σ t t.heap ∧ True) H locs (F0 m 220 ls []) := by
                    intro n
                    induction n with
                    | zero =>
                      intro y4l220 y5l220 H locs ls hG hS hl hw
                      exact (zwh_0 hw).elim
                    | succ n ih220 =>
                      intro y4l220 y5l220 H locs ls hG hS hl hw
                      obtain ⟨rr220, hf, hk220⟩ := zwh_u hw
                      have hf : f_X12_word_L220 σ x1 x2 x3 y4l220 y5l220 = some rr220 := hf
                      unfold f_X12_word_L220 at hf
                      have KJ277_220 : ∀ (y4b277 : Int32) (y5b277 : Int32) (y6b277 : Int32)   (H : Heap) (locs : List Loc) (ls : Array Slot), zG D aC A nl ad σ s H → va_S A s.heap H locs → lv_has ls 8 [(0, .ref (ad 12 0 0)), (1, .int x1), (2, .int x2), (3, .int x3), (4, .int y4b277), (5, .int y5b277), (6, .int y6b277)] → (f_X12_word_B277_220 σ x1 x2 x3 y4b277 y5b277 y6b277) = some rr220 → zWk p l e ({ frames := 4, cells := 0, slots := 0, locals := 96 } : Room) s m args below meth c A (some (.int r)) (fun t => zG D aC A nl ad σ t t.heap ∧ True) H locs (F0 m 277 ls []) := by
                        intro y4b277 y5b277 y6b277   H locs ls hG hS hl hf
                        unfold f_X12_word_B277_220 at hf
                        refine lv_iload hx hb dX12_word_277 (lv_at hl 4 rfl) ?_
                        refine lv_iload hx hb dX12_word_279 (lv_at hl 6 rfl) ?_
                        refine z_callS (n := 1) (rest := [.int y4b277]) (st1 := [.int (f_X12_one y6b277), .int y4b277]) S hG hS hZ (fun _ _ h => h) (c_X12_one l D aC zs A nl ad σ y6b277 (f_X12_one y6b277) rfl) zw_903 zw_904 zw_5 zw_905 (by decide +kernel) ⟨rfl, rfl⟩ ⟨(Nat.le_of_ble_eq_true rfl), (Nat.le_of_ble_eq_true rfl)⟩ hl.1 rfl (by rfl) (by rfl) (Nat.le_of_ble_eq_true rfl) dX12_word_281 ⟨Nat.zero_le _, Nat.zero_le _⟩ (fun H locs hz19 hG hS => ?_)
                        refine lv_iadd hx hb dX12_word_284 ?_
                        refine lv_istore (lv' := [(4, .int (y4b277 + (f_X12_one y6b277))), (0, .ref (ad 12 0 0)), (1, .int x1), (2, .int x2), (3, .int x3), (5, .int y5b277), (6, .int y6b277)]) hx hb dX12_word_285 hl (by decide) rfl (fun ls hl => ?_)
                        refine lv_iinc (v := (y5b277 + 1)) (lv' := [(5, .int (y5b277 + 1)), (4, .int (y4b277 + (f_X12_one y6b277))), (0, .ref (ad 12 0 0)), (1, .int x1), (2, .int x2), (3, .int x3), (6, .int y6b277)]) hx hb dX12_word_287 hl (k := 5) rfl rfl (by decide) rfl (fun ls hl => ?_)
                        refine lv_goto (tgt := 220) hx hb dX12_word_290 (by decide) ?_
                        cases hf
                        exact ih220 (y4b277 + (f_X12_one y6b277)) (y5b277 + 1) H locs ls hG hS (lv_sub hl [2, 3, 4, 5, 1, 0] rfl) hk220
                      refine lv_iload hx hb dX12_word_220 (lv_at hl 5 rfl) ?_
                      refine lv_iconst (v := 2) hx hb dX12_word_222 (by decide) ?_
                      refine lv_icmp_ge (tgt := 293) hx hb dX12_word_223 (by decide) (fun c17 => ?_) (fun c17 => ?_)
                      · have hf := zif_p c17 hf
                        cases hf
                        have hk220 : (y4l220 : Int32) = t220 := hk220
                        have hf := hfo220
                        rw [← hk220] at hf
                        have hf : (some y4l220) = some r := hf
                        refine lv_iload hx hb dX12_word_293 (lv_at hl 4 rfl) ?_
                        have hq := (Option.some.inj hf)
                        subst hq
                        exact z_iret S hG hS hlocks trivial hr dX12_word_295
                      · have hf := zif_n c17 hf
                        refine lv_iconst (v := 0) hx hb dX12_word_226 (by decide) ?_
                        refine lv_istore (lv' := [(6, .int 0), (0, .ref (ad 12 0 0)), (1, .int x1), (2, .int x2), (3, .int x3), (4, .int y4l220), (5, .int y5l220)]) hx hb dX12_word_227 hl (by decide) rfl (fun ls hl => ?_)
                        refine lv_bipush (v := 80) hx hb dX12_word_229 (by decide) ?_
                        refine lv_iload hx hb dX12_word_231 (lv_at hl 6 rfl) ?_
                        refine lv_imul hx hb dX12_word_233 ?_
                        refine lv_istore (lv' := [(7, .int (80 * y5l220)), (6, .int 0), (0, .ref (ad 12 0 0)), (1, .int x1), (2, .int x2), (3, .int x3), (4, .int y4l220), (5, .int y5l220)]) hx hb dX12_word_234 hl (by decide) rfl (fun ls hl => ?_)
                        obtain ⟨t236, hw236, hfo236⟩ := zbi hf
                        have KL236 : ∀ (n : Nat) (y6l236 : Int32) (y7l236 : Int32) (H : Heap) (locs : List Loc) (ls : Array Slot), zG D aC A nl ad σ s H → va_S A s.heap H locs → lv_has ls 8 [(0, .ref (ad 12 0 0)), (1, .int x1), (2, .int x2), (3, .int x3), (4, .int y4l220), (5, .int y5l220), (6, .int y6l236), (7, .int y7l236)] → zwh (fun (q : (Int32 × Int32)) => f_X12_word_L236 σ x1 x2 x3 y4l220 y5l220 q.1 q.2) n (y6l236, y7l236) = some t236 → zWk p l e ({ frames := 4, cells := 0, slots := 0, locals := 96 } : Room) s m args below meth c A (some (.int r)) (fun t => zG D aC A nl ad σ t t.heap ∧ True) H locs (F0 m 236 ls []) := by
                          intro n
                          induction n with
                          | zero =>
                            intro y6l236 y7l236 H locs ls hG hS hl hw
                            exact (zwh_0 hw).elim
                          | succ n ih236 =>
                            intro y6l236 y7l236 H locs ls hG hS hl hw
                            obtain ⟨rr236, hf, hk236⟩ := zwh_u hw
                            have hf : f_X12_word_L236 σ x1 x2 x3 y4l220 y5l220 y6l236 y7l236 = some rr236 := hf
                            unfold f_X12_word_L236 at hf
                            have KJ269_236 : ∀ (y7b269 : Int32) (t0b269 : Int32)   (H : Heap) (locs : List Loc) (ls : Array Slot), zG D aC A nl ad σ s H → va_S A s.heap H locs → lv_has ls 8 [(0, .ref (ad 12 0 0)), (1, .int x1), (2, .int x2), (3, .int x3), (4, .int y4l220), (5, .int y5l220), (7, .int y7b269)] → (f_X12_word_B269_236 σ x1 x2 x3 y4l220 y5l220 y7b269 t0b269) = some rr236 → zWk p l e ({ frames := 4, cells := 0, slots := 0, locals := 96 } : Room) s m args below meth c A (some (.int r)) (fun t => zG D aC A nl ad σ t t.heap ∧ True) H locs (F0 m 269 ls [.int t0b269]) := by
                              intro y7b269 t0b269   H locs ls hG hS hl hf
                              unfold f_X12_word_B269_236 at hf
                              refine lv_istore (lv' := [(6, .int t0b269), (0, .ref (ad 12 0 0)), (1, .int x1), (2, .int x2), (3, .int x3), (4, .int y4l220), (5, .int y5l220), (7, .int y7b269)]) hx hb dX12_word_269 hl (by decide) rfl (fun ls hl => ?_)
                              refine lv_iinc (v := (y7b269 + 1)) (lv' := [(7, .int (y7b269 + 1)), (6, .int t0b269), (0, .ref (ad 12 0 0)), (1, .int x1), (2, .int x2), (3, .int x3), (4, .int y4l220), (5, .int y5l220)]) hx hb dX12_word_271 hl (k := 7) rfl rfl (by decide) rfl (fun ls hl => ?_)
                              refine lv_goto (tgt := 236) hx hb dX12_word_274 (by decide) ?_
                              cases hf
                              exact ih236 t0b269 (y7b269 + 1) H locs ls hG hS (lv_sub hl [2, 3, 4, 5, 6, 7, 1, 0] rfl) hk236
                            have KJ264_236 : ∀ (y7b264 : Int32)   (H : Heap) (locs : List Loc) (ls : Array Slot), zG D aC A nl ad σ s H → va_S A s.heap H locs → lv_has ls 8 [(0, .ref (ad 12 0 0)), (1, .int x1), (2, .int x2), (3, .int x3), (4, .int y4l220), (5, .int y5l220), (7, .int y7b264)] → (f_X12_word_B264_236 σ x1 x2 x3 y4l220 y5l220 y7b264) = some rr236 → zWk p l e ({ frames := 4, cells := 0, slots := 0, locals := 96 } : Room) s m args below meth c A (some (.int r)) (fun t => zG D aC A nl ad σ t t.heap ∧ True) H locs (F0 m 264 ls []) := by
                              intro y7b264   H locs ls hG hS hl hf
                              unfold f_X12_word_B264_236 at hf
                              refine lv_iconst (v := 1) hx hb dX12_word_264 (by decide) ?_
                              refine lv_goto (tgt := 269) hx hb dX12_word_265 (by decide) ?_
                              exact KJ269_236 y7b264 1 H locs ls hG hS (lv_sub hl [0, 1, 2, 3, 4, 5, 6] rfl) hf
                            refine lv_iload hx hb dX12_word_236 (lv_at hl 7 rfl) ?_
                            refine lv_bipush (v := 80) hx hb dX12_word_238 (by decide) ?_
                            refine lv_iload hx hb dX12_word_240 (lv_at hl 5 rfl) ?_
                            refine lv_imul hx hb dX12_word_242 ?_
                            refine lv_bipush (v := 80) hx hb dX12_word_243 (by decide) ?_
                            refine lv_iadd hx hb dX12_word_245 ?_
                            refine lv_icmp_ge (tgt := 277) hx hb dX12_word_246 (by decide) (fun c26 => ?_) (fun c26 => ?_)
                            · have hf := zif_p c26 hf
                              cases hf
                              have hk236 : (y6l236 : Int32) = t236 := hk236
                              have hf := hfo236
                              rw [← hk236] at hf
                              have hf : (f_X12_word_B277_220 σ x1 x2 x3 y4l220 y5l220 y6l236) = some rr220 := hf
                              exact KJ277_220 y4l220 y5l220 y6l236 H locs ls hG hS (lv_sub hl [0, 1, 2, 3, 4, 5, 6] rfl) hf
                            · have hf := zif_n c26 hf
                              refine lv_iload hx hb dX12_word_249 (lv_at hl 6 rfl) ?_
                              refine lv_if_ne (tgt := 264) hx hb dX12_word_251 (by decide) (fun c27 => ?_) (fun c27 => ?_)
                              · have hf := zif_n c27 hf
                                exact KJ264_236 y7l236 H locs ls hG hS (lv_sub hl [0, 1, 2, 3, 4, 5, 7] rfl) hf
                              · have hf := zif_p c27 hf
                                refine lv_aload_n hx hb dX12_word_254 rfl (lv_at hl 0 rfl) ?_
                                refine lv_iload_n hx hb dX12_word_255 rfl (lv_at hl 1 rfl) ?_
                                refine lv_iload hx hb dX12_word_256 (lv_at hl 7 rfl) ?_
                                obtain ⟨r28, er28, hf⟩ := zbi hf
                                refine z_callV (n := 2) (rest := []) (st1 := [.int r28]) (c0 := 12) (i0 := 0) (hZ.2.1 (12, 0) (by decide)) (by rfl) S hG hS hZ (fun _ _ h => h) (c_X12_at l D aC zs A nl ad σ x1 y7l236 r28 er28) zw_899 zw_900 zw_901 zw_5 zw_902 (by decide +kernel) ⟨rfl, rfl⟩ ⟨(Nat.le_of_ble_eq_true rfl), (Nat.le_of_ble_eq_true rfl)⟩ hl.1 rfl (by rfl) (by rfl) (Nat.le_of_ble_eq_true rfl) dX12_word_258 ⟨Nat.zero_le _, Nat.zero_le _⟩ (fun H locs hz29 hG hS => ?_)
                                have Kv32 : ∀ (v32 : Int32) (ls : Array Slot), lv_has ls 8 [(0, .ref (ad 12 0 0)), (1, .int x1), (2, .int x2), (3, .int x3), (4, .int y4l220), (5, .int y5l220), (6, .int y6l236), (7, .int y7l236)] → (some (.inl (v32, (y7l236 + 1)))) = some rr236 → zWk p l e ({ frames := 4, cells := 0, slots := 0, locals := 96 } : Room) s m args below meth c A (some (.int r)) (fun t => zG D aC A nl ad σ t t.heap ∧ True) H locs (F0 m 269 ls [.int v32]) := by
                                  intro v32 ls hl hf
                                  refine lv_istore (lv' := [(6, .int v32), (0, .ref (ad 12 0 0)), (1, .int x1), (2, .int x2), (3, .int x3), (4, .int y4l220), (5, .int y5l220), (7, .int y7l236)]) hx hb dX12_word_269 hl (by decide) rfl (fun ls hl => ?_)
                                  refine lv_iinc (v := (y7l236 + 1)) (lv' := [(7, .int (y7l236 + 1)), (6, .int v32), (0, .ref (ad 12 0 0)), (1, .int x1), (2, .int x2), (3, .int x3), (4, .int y4l220), (5, .int y5l220)]) hx hb dX12_word_271 hl (k := 7) rfl rfl (by decide) rfl (fun ls hl => ?_)
                                  refine lv_goto (tgt := 236) hx hb dX12_word_274 (by decide) ?_
                                  cases hf
                                  exact ih236 v32 (y7l236 + 1) H locs ls hG hS (lv_sub hl [2, 3, 4, 5, 6, 7, 1, 0] rfl) hk236
                                refine lv_if_le (tgt := 268) hx hb dX12_word_261 (by decide) (fun c31 => ?_) (fun c31 => ?_)
                                · rw [if_pos c31] at hf
                                  refine lv_iconst (v := 0) hx hb dX12_word_268 (by decide) ?_
                                  exact Kv32 _ ls hl hf
                                · rw [if_neg c31] at hf
                                  refine lv_iconst (v := 1) hx hb dX12_word_264 (by decide) ?_
                                  refine lv_goto (tgt := 269) hx hb dX12_word_265 (by decide) ?_
                                  exact Kv32 _ ls hl hf
                        exact KL236 zFu 0 (80 * y5l220) H locs ls hG hS (lv_sub hl [2, 3, 4, 5, 6, 7, 1, 0] rfl) hw236
                  exact KL220 zFu 0 0 H locs ls hG hS (lv_sub hl [2, 3, 4, 5, 1, 0] rfl) hw220
  exact hK0 _ _ ls hG hS hl hf
