def zHR_X4_any (l : Launch) (D : va_G) (aC : Nat → ClassId) (zs : Nat × Nat) (A : Nat → Prop) (nl : zNL) (ad : Nat → Nat → Nat → Nat) (d : Nat) (rc : Nat → zM → Int32 → Option (Int32 × zM)) : Prop := (∀ (σ : zM) (x1 : Int32) (r : Int32) (σ' : zM) , rc 0 σ x1 = some (r, σ') → Met l yX4_any (Cond.code yX4_any cX4_any 4 (some .boolean) :: wsL_law) ({ frames := d + 3, cells := 0, slots := 0, locals := 23 * d + 66 } : Room) (zP D aC zs zfX A nl ad σ [.ref (ad 4 0 0), .int x1]) (zQ (some (.int r)) (fun t => zG D aC A nl ad σ' t t.heap ∧ (r = 0 ∨ r = 1)) A) 0 0 A) ∧ (∀ (σ : zM) (x1 : Int32) (r : Int32) (σ' : zM) , rc 1 σ x1 = some (r, σ') → Met l yX4_all (Cond.code yX4_all cX4_all 4 (some .boolean) :: wsL_law) ({ frames := d + 3, cells := 0, slots := 0, locals := 23 * d + 66 } : Room) (zP D aC zs zfX A nl ad σ [.ref (ad 4 0 0), .int x1]) (zQ (some (.int r)) (fun t => zG D aC A nl ad σ' t t.heap ∧ (r = 0 ∨ r = 1)) A) 0 0 A) ∧ (∀ (σ : zM) (x1 : Int32) (r : Int32) (σ' : zM) , rc 2 σ x1 = some (r, σ') → Met l yX4_one (Cond.code yX4_one cX4_one 3 (some .boolean) :: wsL_law) ({ frames := d + 3, cells := 0, slots := 0, locals := 23 * d + 66 } : Room) (zP D aC zs zfX A nl ad σ [.ref (ad 4 0 0), .int x1]) (zQ (some (.int r)) (fun t => zG D aC A nl ad σ' t t.heap ∧ (r = 0 ∨ r = 1)) A) 0 0 A)
set_option maxRecDepth 100000 in
set_option maxHeartbeats 4000000 in
theorem c_X4_any_b (l : Launch) (D : va_G) (aC : Nat → ClassId) (zs : Nat × Nat) (A : Nat → Prop) (nl : zNL) (ad : Nat → Nat → Nat → Nat) (d : Nat) (rc : Nat → zM → Int32 → Option (Int32 × zM)) (hrc : zHR_X4_any l D aC zs A nl ad d rc) (σ : zM) (x1 : Int32) (r : Int32) (σ' : zM) (hf : f_X4_any σ rc x1 = some (r, σ')) : Met l yX4_any (Cond.code yX4_any cX4_any 4 (some .boolean) :: wsL_law) ({ frames := (d + 1) + 3, cells := 0, slots := 0, locals := 23 * (d + 1) + 66 } : Room) (zP D aC zs zfX A nl ad σ [.ref (ad 4 0 0), .int x1]) (zQ (some (.int r)) (fun t => zG D aC A nl ad σ' t t.heap ∧ (r = 0 ∨ r = 1)) A) 0 0 A := by
  unfold zHR_X4_any at hrc
  refine Met.ofW (cc := cX4_any) (maxL := 4) (ret := (some .boolean)) (by decide) rfl ?_
  intro p e s m args below meth c s₁ B hml hv
  obtain ⟨rfl, hG, hZ⟩ := hv
  have hx := B.exec
  have hb := B.bytes
  have hr := B.returns
  have hts : ∀ w ∈ wsL_law, w.before ([.ref (ad 4 0 0), .int x1] : List Value).toArray s = true := fun w h => (atoms_spec B.pre) w (List.mem_cons_of_mem _ h)
  have hown : s.vm.findClass RX4 = some m.cls := findClass_of_methodNamed B.named
  have hlocks := B.notSynchronized
  have S : zS p m c cX4_any 4 s ([.ref (ad 4 0 0), .int x1] : List Value).toArray RX4 := ⟨hx, hb, hml, hown, hts⟩
  have hS : va_S A s.heap s.heap [] := va_S.rf
  have hl := lv_entry ([.ref (ad 4 0 0), .int x1]) (n := 4) (Nat.le_of_ble_eq_true rfl)
  rw [lg_entry_eq]
  generalize (lg_sl ([.ref (ad 4 0 0), .int x1]) ++ List.replicate (4 - (lg_sl ([.ref (ad 4 0 0), .int x1])).length) Slot.unset).toArray = ls at hl ⊢
  have hl : lv_has ls 4 [(0, .ref (ad 4 0 0)), (1, .int x1)] := hl
  generalize hargs : ([.ref (ad 4 0 0), .int x1] : List Value).toArray = args at S hts ⊢
  clear hargs
  have hK0 : ∀ (H : Heap) (locs : List Loc) (ls : Array Slot), zG D aC A nl ad σ s H → va_S A s.heap H locs → lv_has ls 4 [(0, .ref (ad 4 0 0)), (1, .int x1)] → f_X4_any σ rc x1 = some (r, σ') → zWk p l e ({ frames := (d + 1) + 3, cells := 0, slots := 0, locals := 23 * (d + 1) + 66 } : Room) s m args below meth c A (some (.int r)) (fun t => zG D aC A nl ad σ' t t.heap ∧ (r = 0 ∨ r = 1)) H locs (F0 m 0 ls []) := by
    intro H locs ls hG hS hl hf
    unfold f_X4_any at hf
    refine lv_aload_n hx hb dX4_any_0 rfl (lv_at hl 0 rfl) ?_
    refine lv_iload_n hx hb dX4_any_1 rfl (lv_at hl 1 rfl) ?_
    obtain ⟨q1, eq1, hf⟩ := zbi hf
    refine z_callV (n := 1) (rest := []) (st1 := [.int q1.1]) (c0 := 4) (i0 := 0) (hZ.2.1 (4, 0) (by decide)) (by rfl) S hG hS hZ (fun _ _ h => h) (hrc.2.1 σ x1 q1.1 q1.2 eq1) zw_456 zw_457 zw_458 zw_27 zw_463 (by decide +kernel) ⟨rfl, rfl⟩ ⟨(by dsimp only; omega), (by dsimp only; omega)⟩ hl.1 rfl (by rfl) (by rfl) (Nat.le_of_ble_eq_true rfl) dX4_any_2 ⟨Nat.zero_le _, Nat.zero_le _⟩ (fun H locs hz2 hG hS => ?_)
    refine lv_istore_n (lv' := [(2, .int q1.1), (0, .ref (ad 4 0 0)), (1, .int x1)]) hx hb dX4_any_5 rfl hl (by decide) rfl (fun ls hl => ?_)
    refine lv_iconst (v := 0) hx hb dX4_any_6 (by decide) ?_
    refine lv_istore_n (lv' := [(3, .int 0), (2, .int q1.1), (0, .ref (ad 4 0 0)), (1, .int x1)]) hx hb dX4_any_7 rfl hl (by decide) rfl (fun ls hl => ?_)
    obtain ⟨t8, hw8, hfo8⟩ := zbi hf
    have KL8 : ∀ (n : Nat) (y2l8 : Int32) (y3l8 : Int32) (σl8 : zM) (H : Heap) (locs : List Loc) (ls : Array Slot), zG D aC A nl ad σl8 s H → va_S A s.heap H locs → lv_has ls 4 [(0, .ref (ad 4 0 0)), (1, .int x1), (2, .int y2l8), (3, .int y3l8)] → zwh (fun (q : (Int32 × Int32 × zM)) => f_X4_any_L8 rc x1 q.1 q.2.1 q.2.2) n (y2l8, y3l8, σl8) = some t8 → zWk p l e ({ frames := (d + 1) + 3, cells := 0, slots := 0, locals := 23 * (d + 1) + 66 } : Room) s m args below meth c A (some (.int r)) (fun t => zG D aC A nl ad σ' t t.heap ∧ (r = 0 ∨ r = 1)) H locs (F0 m 8 ls []) := by
      intro n
      induction n with
      | zero =>
        intro y2l8 y3l8 σl8 H locs ls hG hS hl hw
        exact (zwh_0 hw).elim
      | succ n ih8 =>
        intro y2l8 y3l8 σl8 H locs ls hG hS hl hw
        obtain ⟨rr8, hf, hk8⟩ := zwh_u hw
        have hf : f_X4_any_L8 rc x1 y2l8 y3l8 σl8 = some rr8 := hf
        unfold f_X4_any_L8 at hf
        have KJ53_8 : ∀ (y3b53 : Int32) (t0b53 : Int32)  (σb53_8 : zM) (H : Heap) (locs : List Loc) (ls : Array Slot), zG D aC A nl ad σb53_8 s H → va_S A s.heap H locs → lv_has ls 4 [(0, .ref (ad 4 0 0)), (1, .int x1), (3, .int y3b53)] → (f_X4_any_B53_8 σb53_8 rc x1 y3b53 t0b53) = some rr8 → zWk p l e ({ frames := (d + 1) + 3, cells := 0, slots := 0, locals := 23 * (d + 1) + 66 } : Room) s m args below meth c A (some (.int r)) (fun t => zG D aC A nl ad σ' t t.heap ∧ (r = 0 ∨ r = 1)) H locs (F0 m 53 ls [.int t0b53]) := by
          intro y3b53 t0b53  σb53_8 H locs ls hG hS hl hf
          unfold f_X4_any_B53_8 at hf
          refine lv_istore_n (lv' := [(2, .int t0b53), (0, .ref (ad 4 0 0)), (1, .int x1), (3, .int y3b53)]) hx hb dX4_any_53 rfl hl (by decide) rfl (fun ls hl => ?_)
          refine lv_iinc (v := (y3b53 + 1)) (lv' := [(3, .int (y3b53 + 1)), (2, .int t0b53), (0, .ref (ad 4 0 0)), (1, .int x1)]) hx hb dX4_any_54 hl (k := 3) rfl rfl (by decide) rfl (fun ls hl => ?_)
          refine lv_goto (tgt := 8) hx hb dX4_any_57 (by decide) ?_
          cases hf
          exact ih8 t0b53 (y3b53 + 1) σb53_8 H locs ls hG hS (lv_sub hl [2, 3, 1, 0] rfl) hk8
        have KJ52_8 : ∀ (y3b52 : Int32)  (σb52_8 : zM) (H : Heap) (locs : List Loc) (ls : Array Slot), zG D aC A nl ad σb52_8 s H → va_S A s.heap H locs → lv_has ls 4 [(0, .ref (ad 4 0 0)), (1, .int x1), (3, .int y3b52)] → (f_X4_any_B52_8 σb52_8 rc x1 y3b52) = some rr8 → zWk p l e ({ frames := (d + 1) + 3, cells := 0, slots := 0, locals := 23 * (d + 1) + 66 } : Room) s m args below meth c A (some (.int r)) (fun t => zG D aC A nl ad σ' t t.heap ∧ (r = 0 ∨ r = 1)) H locs (F0 m 52 ls []) := by
          intro y3b52  σb52_8 H locs ls hG hS hl hf
          unfold f_X4_any_B52_8 at hf
          refine lv_iconst (v := 0) hx hb dX4_any_52 (by decide) ?_
          exact KJ53_8 y3b52 0 σb52_8 H locs ls hG hS (lv_sub hl [0, 1, 2] rfl) hf
        refine lv_iload_n hx hb dX4_any_8 rfl (lv_at hl 3 rfl) ?_
        refine lv_sipush (v := 900) hx hb dX4_any_9 (by decide) ?_
        refine lv_icmp_ge (tgt := 60) hx hb dX4_any_12 (by decide) (fun c18 => ?_) (fun c18 => ?_)
        · have hf := zif_p c18 hf
          cases hf
          have hk8 : ((y2l8, σl8) : (Int32 × zM)) = t8 := hk8
          have hf := hfo8
          rw [← hk8] at hf
          have hf : ((zck (decide (y2l8 = 0 ∨ y2l8 = 1))).bind fun _ => some (y2l8, σl8)) = some (r, σ') := hf
          refine lv_iload_n hx hb dX4_any_60 rfl (lv_at hl 2 rfl) ?_
          obtain ⟨_, hzc, hf⟩ := zbi hf
          have hzc := of_decide_eq_true (zck_s hzc)
          obtain ⟨hq1, hq2⟩ := Prod.mk.inj (Option.some.inj hf)
          subst hq1
          subst hq2
          exact z_zret S hG hS hlocks hzc hr dX4_any_61
        · have hf := zif_n c18 hf
          refine lv_iload_n hx hb dX4_any_15 rfl (lv_at hl 2 rfl) ?_
          refine lv_if_eq (tgt := 60) hx hb dX4_any_16 (by decide) (fun c19 => ?_) (fun c19 => ?_)
          · have hf := zif_p c19 hf
            cases hf
            have hk8 : ((y2l8, σl8) : (Int32 × zM)) = t8 := hk8
            have hf := hfo8
            rw [← hk8] at hf
            have hf : ((zck (decide (y2l8 = 0 ∨ y2l8 = 1))).bind fun _ => some (y2l8, σl8)) = some (r, σ') := hf
            refine lv_iload_n hx hb dX4_any_60 rfl (lv_at hl 2 rfl) ?_
            obtain ⟨_, hzc, hf⟩ := zbi hf
            have hzc := of_decide_eq_true (zck_s hzc)
            obtain ⟨hq1, hq2⟩ := Prod.mk.inj (Option.some.inj hf)
            subst hq1
            subst hq2
            exact z_zret S hG hS hlocks hzc hr dX4_any_61
          · have hf := zif_n c19 hf
            refine lv_aload_n hx hb dX4_any_19 rfl (lv_at hl 0 rfl) ?_
            refine lv_bipush (v := 21) hx hb dX4_any_20 (by decide) ?_
            obtain ⟨q20, eq20, hf⟩ := zbi hf
            refine z_callV (n := 1) (rest := []) (st1 := [.int q20.1]) (c0 := 4) (i0 := 0) (hZ.2.1 (4, 0) (by decide)) (by rfl) S hG hS hZ (fun _ _ h => h) (c_X4_takeWord l D aC zs A nl ad σl8 21 q20.1 q20.2 eq20) zw_395 zw_396 zw_397 zw_27 zw_398 (by decide +kernel) ⟨rfl, rfl⟩ ⟨(by dsimp only; omega), (by dsimp only; omega)⟩ hl.1 rfl (by rfl) (by rfl) (Nat.le_of_ble_eq_true rfl) dX4_any_22 ⟨Nat.zero_le _, Nat.zero_le _⟩ (fun H locs hz21 hG hS => ?_)
            refine lv_if_eq (tgt := 60) hx hb dX4_any_25 (by decide) (fun c22 => ?_) (fun c22 => ?_)
            · have hf := zif_p c22 hf
              cases hf
              have hk8 : ((y2l8, q20.2) : (Int32 × zM)) = t8 := hk8
              have hf := hfo8
              rw [← hk8] at hf
              have hf : ((zck (decide (y2l8 = 0 ∨ y2l8 = 1))).bind fun _ => some (y2l8, q20.2)) = some (r, σ') := hf
              refine lv_iload_n hx hb dX4_any_60 rfl (lv_at hl 2 rfl) ?_
              obtain ⟨_, hzc, hf⟩ := zbi hf
              have hzc := of_decide_eq_true (zck_s hzc)
              obtain ⟨hq1, hq2⟩ := Prod.mk.inj (Option.some.inj hf)
              subst hq1
              subst hq2
              exact z_zret S hG hS hlocks hzc hr dX4_any_61
            · have hf := zif_n c22 hf
              refine lv_aload_n hx hb dX4_any_28 rfl (lv_at hl 0 rfl) ?_
              refine lv_iload_n hx hb dX4_any_29 rfl (lv_at hl 1 rfl) ?_
              obtain ⟨q23, eq23, hf⟩ := zbi hf
              refine z_callV (n := 1) (rest := []) (st1 := [.int q23.1]) (c0 := 4) (i0 := 0) (hZ.2.1 (4, 0) (by decide)) (by rfl) S hG hS hZ (fun _ _ h => h) (hrc.2.1 q20.2 x1 q23.1 q23.2 eq23) zw_456 zw_457 zw_458 zw_27 zw_463 (by decide +kernel) ⟨rfl, rfl⟩ ⟨(by dsimp only; omega), (by dsimp only; omega)⟩ hl.1 rfl (by rfl) (by rfl) (Nat.le_of_ble_eq_true rfl) dX4_any_30 ⟨Nat.zero_le _, Nat.zero_le _⟩ (fun H locs hz24 hG hS => ?_)
              refine lv_if_eq (tgt := 52) hx hb dX4_any_33 (by decide) (fun c25 => ?_) (fun c25 => ?_)
              · have hf := zif_p c25 hf
                exact KJ52_8 y3l8 q23.2 H locs ls hG hS (lv_sub hl [0, 1, 3] rfl) hf
              · have hf := zif_n c25 hf
                refine lv_aload_n hx hb dX4_any_36 rfl (lv_at hl 0 rfl) ?_
                refine z_get (c0 := 4) (i0 := 0) (k0 := 7) (T := TX4) (v := va_rf (Option.map (fun j => ad 0 j 0) (zR q23.2 4 0 7))) S hG (hZ.2.1 (4, 0) (by decide)) rfl inlX4 (by decide) rfl zw_117 rfl dX4_any_37 ?_
                rcases hE27 : (zR q23.2 4 0 7) with _ | j26
                · have hf := znu_n0 hE27 hf
                  refine W.eq (g2 := F0 m 40 ls [.null]) (by first | rfl | (rw [hE27]; rfl)) ?_
                  refine lv_bipush (v := (-2)) hx hb dX4_any_40 (by decide) ?_
                  cases hf
                · have hf := znu_s0 hE27 hf
                  refine W.eq (g2 := F0 m 40 ls [.ref (ad 0 j26 0)]) (by first | rfl | (rw [hE27]; rfl)) ?_
                  refine lv_bipush (v := (-2)) hx hb dX4_any_40 (by decide) ?_
                  obtain ⟨q28, eq28, hf⟩ := zbi hf
                  refine z_callV (n := 1) (rest := []) (st1 := [.int q28.1]) (c0 := 0) (i0 := j26) ((fun j h => hG.2.2.2.1 4 0 7 j rfl h) j26 hE27) (by rfl) S hG hS hZ (fun _ _ h => h) (c_X0_emit l D aC zs A nl ad q23.2 j26 (-2) q28.1 q28.2 ((fun j h => hG.2.2.2.1 4 0 7 j rfl h) j26 hE27) eq28) zw_459 zw_460 zw_461 zw_76 zw_462 (by decide +kernel) ⟨rfl, rfl⟩ ⟨(by dsimp only; omega), (by dsimp only; omega)⟩ hl.1 rfl (by rfl) (by rfl) (Nat.le_of_ble_eq_true rfl) dX4_any_42 ⟨Nat.zero_le _, Nat.zero_le _⟩ (fun H locs hz29 hG hS => ?_)
                  have Kv32 : ∀ (v32 : Int32) (ls : Array Slot), lv_has ls 4 [(0, .ref (ad 4 0 0)), (1, .int x1), (2, .int y2l8), (3, .int y3l8)] → (some (.inl (v32, (y3l8 + 1), q28.2))) = some rr8 → zWk p l e ({ frames := (d + 1) + 3, cells := 0, slots := 0, locals := 23 * (d + 1) + 66 } : Room) s m args below meth c A (some (.int r)) (fun t => zG D aC A nl ad σ' t t.heap ∧ (r = 0 ∨ r = 1)) H locs (F0 m 53 ls [.int v32]) := by
                    intro v32 ls hl hf
                    refine lv_istore_n (lv' := [(2, .int v32), (0, .ref (ad 4 0 0)), (1, .int x1), (3, .int y3l8)]) hx hb dX4_any_53 rfl hl (by decide) rfl (fun ls hl => ?_)
                    refine lv_iinc (v := (y3l8 + 1)) (lv' := [(3, .int (y3l8 + 1)), (2, .int v32), (0, .ref (ad 4 0 0)), (1, .int x1)]) hx hb dX4_any_54 hl (k := 3) rfl rfl (by decide) rfl (fun ls hl => ?_)
                    refine lv_goto (tgt := 8) hx hb dX4_any_57 (by decide) ?_
                    cases hf
                    exact ih8 v32 (y3l8 + 1) q28.2 H locs ls hG hS (lv_sub hl [2, 3, 1, 0] rfl) hk8
                  refine lv_if_eq (tgt := 52) hx hb dX4_any_45 (by decide) (fun c31 => ?_) (fun c31 => ?_)
                  · rw [if_pos c31] at hf
                    refine lv_iconst (v := 0) hx hb dX4_any_52 (by decide) ?_
                    exact Kv32 _ ls hl hf
                  · rw [if_neg c31] at hf
                    refine lv_iconst (v := 1) hx hb dX4_any_48 (by decide) ?_
                    refine lv_goto (tgt := 53) hx hb dX4_any_49 (by decide) ?_
                    exact Kv32 _ ls hl hf
    exact KL8 zFu q1.1 0 q1.2 H locs ls hG hS (lv_sub hl [2, 3, 1, 0] rfl) hw8
  exact hK0 _ _ ls hG hS hl hf
set_option maxRecDepth 100000 in
set_option maxHeartbeats 4000000 in
theorem c_X4_all_b (l : Launch) (D : va_G) (aC : Nat → ClassId) (zs : Nat × Nat) (A : Nat → Prop) (nl : zNL) (ad : Nat → Nat → Nat → Nat) (d : Nat) (rc : Nat → zM → Int32 → Option (Int32 × zM)) (hrc : zHR_X4_any l D aC zs A nl ad d rc) (σ : zM) (x1 : Int32) (r : Int32) (σ' : zM) (hf : f_X4_all σ rc x1 = some (r, σ')) : Met l yX4_all (Cond.code yX4_all cX4_all 4 (some .boolean) :: wsL_law) ({ frames := (d + 1) + 3, cells := 0, slots := 0, locals := 23 * (d + 1) + 66 } : Room) (zP D aC zs zfX A nl ad σ [.ref (ad 4 0 0), .int x1]) (zQ (some (.int r)) (fun t => zG D aC A nl ad σ' t t.heap ∧ (r = 0 ∨ r = 1)) A) 0 0 A := by
  unfold zHR_X4_any at hrc
  refine Met.ofW (cc := cX4_all) (maxL := 4) (ret := (some .boolean)) (by decide) rfl ?_
  intro p e s m args below meth c s₁ B hml hv
  obtain ⟨rfl, hG, hZ⟩ := hv
  have hx := B.exec
  have hb := B.bytes
  have hr := B.returns
  have hts : ∀ w ∈ wsL_law, w.before ([.ref (ad 4 0 0), .int x1] : List Value).toArray s = true := fun w h => (atoms_spec B.pre) w (List.mem_cons_of_mem _ h)
  have hown : s.vm.findClass RX4 = some m.cls := findClass_of_methodNamed B.named
  have hlocks := B.notSynchronized
  have S : zS p m c cX4_all 4 s ([.ref (ad 4 0 0), .int x1] : List Value).toArray RX4 := ⟨hx, hb, hml, hown, hts⟩
  have hS : va_S A s.heap s.heap [] := va_S.rf
  have hl := lv_entry ([.ref (ad 4 0 0), .int x1]) (n := 4) (Nat.le_of_ble_eq_true rfl)
  rw [lg_entry_eq]
  generalize (lg_sl ([.ref (ad 4 0 0), .int x1]) ++ List.replicate (4 - (lg_sl ([.ref (ad 4 0 0), .int x1])).length) Slot.unset).toArray = ls at hl ⊢
  have hl : lv_has ls 4 [(0, .ref (ad 4 0 0)), (1, .int x1)] := hl
  generalize hargs : ([.ref (ad 4 0 0), .int x1] : List Value).toArray = args at S hts ⊢
  clear hargs
  have hK0 : ∀ (H : Heap) (locs : List Loc) (ls : Array Slot), zG D aC A nl ad σ s H → va_S A s.heap H locs → lv_has ls 4 [(0, .ref (ad 4 0 0)), (1, .int x1)] → f_X4_all σ rc x1 = some (r, σ') → zWk p l e ({ frames := (d + 1) + 3, cells := 0, slots := 0, locals := 23 * (d + 1) + 66 } : Room) s m args below meth c A (some (.int r)) (fun t => zG D aC A nl ad σ' t t.heap ∧ (r = 0 ∨ r = 1)) H locs (F0 m 0 ls []) := by
    intro H locs ls hG hS hl hf
    unfold f_X4_all at hf
    refine lv_aload_n hx hb dX4_all_0 rfl (lv_at hl 0 rfl) ?_
    refine lv_iload_n hx hb dX4_all_1 rfl (lv_at hl 1 rfl) ?_
    obtain ⟨q1, eq1, hf⟩ := zbi hf
    refine z_callV (n := 1) (rest := []) (st1 := [.int q1.1]) (c0 := 4) (i0 := 0) (hZ.2.1 (4, 0) (by decide)) (by rfl) S hG hS hZ (fun _ _ h => h) (hrc.2.2 σ x1 q1.1 q1.2 eq1) zw_464 zw_465 zw_466 zw_27 zw_467 (by decide +kernel) ⟨rfl, rfl⟩ ⟨(by dsimp only; omega), (by dsimp only; omega)⟩ hl.1 rfl (by rfl) (by rfl) (Nat.le_of_ble_eq_true rfl) dX4_all_2 ⟨Nat.zero_le _, Nat.zero_le _⟩ (fun H locs hz2 hG hS => ?_)
    refine lv_istore_n (lv' := [(2, .int q1.1), (0, .ref (ad 4 0 0)), (1, .int x1)]) hx hb dX4_all_5 rfl hl (by decide) rfl (fun ls hl => ?_)
    refine lv_iconst (v := 0) hx hb dX4_all_6 (by decide) ?_
    refine lv_istore_n (lv' := [(3, .int 0), (2, .int q1.1), (0, .ref (ad 4 0 0)), (1, .int x1)]) hx hb dX4_all_7 rfl hl (by decide) rfl (fun ls hl => ?_)
    obtain ⟨t8, hw8, hfo8⟩ := zbi hf
    have KL8 : ∀ (n : Nat) (y2l8 : Int32) (y3l8 : Int32) (σl8 : zM) (H : Heap) (locs : List Loc) (ls : Array Slot), zG D aC A nl ad σl8 s H → va_S A s.heap H locs → lv_has ls 4 [(0, .ref (ad 4 0 0)), (1, .int x1), (2, .int y2l8), (3, .int y3l8)] → zwh (fun (q : (Int32 × Int32 × zM)) => f_X4_all_L8 rc x1 q.1 q.2.1 q.2.2) n (y2l8, y3l8, σl8) = some t8 → zWk p l e ({ frames := (d + 1) + 3, cells := 0, slots := 0, locals := 23 * (d + 1) + 66 } : Room) s m args below meth c A (some (.int r)) (fun t => zG D aC A nl ad σ' t t.heap ∧ (r = 0 ∨ r = 1)) H locs (F0 m 8 ls []) := by
      intro n
      induction n with
      | zero =>
        intro y2l8 y3l8 σl8 H locs ls hG hS hl hw
        exact (zwh_0 hw).elim
      | succ n ih8 =>
        intro y2l8 y3l8 σl8 H locs ls hG hS hl hw
        obtain ⟨rr8, hf, hk8⟩ := zwh_u hw
        have hf : f_X4_all_L8 rc x1 y2l8 y3l8 σl8 = some rr8 := hf
        unfold f_X4_all_L8 at hf
        have KJ52_8 : ∀ (y3b52 : Int32) (t0b52 : Int32)  (σb52_8 : zM) (H : Heap) (locs : List Loc) (ls : Array Slot), zG D aC A nl ad σb52_8 s H → va_S A s.heap H locs → lv_has ls 4 [(0, .ref (ad 4 0 0)), (1, .int x1), (3, .int y3b52)] → (f_X4_all_B52_8 σb52_8 rc x1 y3b52 t0b52) = some rr8 → zWk p l e ({ frames := (d + 1) + 3, cells := 0, slots := 0, locals := 23 * (d + 1) + 66 } : Room) s m args below meth c A (some (.int r)) (fun t => zG D aC A nl ad σ' t t.heap ∧ (r = 0 ∨ r = 1)) H locs (F0 m 52 ls [.int t0b52]) := by
          intro y3b52 t0b52  σb52_8 H locs ls hG hS hl hf
          unfold f_X4_all_B52_8 at hf
          refine lv_istore_n (lv' := [(2, .int t0b52), (0, .ref (ad 4 0 0)), (1, .int x1), (3, .int y3b52)]) hx hb dX4_all_52 rfl hl (by decide) rfl (fun ls hl => ?_)
          refine lv_iinc (v := (y3b52 + 1)) (lv' := [(3, .int (y3b52 + 1)), (2, .int t0b52), (0, .ref (ad 4 0 0)), (1, .int x1)]) hx hb dX4_all_53 hl (k := 3) rfl rfl (by decide) rfl (fun ls hl => ?_)
          refine lv_goto (tgt := 8) hx hb dX4_all_56 (by decide) ?_
          cases hf
          exact ih8 t0b52 (y3b52 + 1) σb52_8 H locs ls hG hS (lv_sub hl [2, 3, 1, 0] rfl) hk8
        have KJ51_8 : ∀ (y3b51 : Int32)  (σb51_8 : zM) (H : Heap) (locs : List Loc) (ls : Array Slot), zG D aC A nl ad σb51_8 s H → va_S A s.heap H locs → lv_has ls 4 [(0, .ref (ad 4 0 0)), (1, .int x1), (3, .int y3b51)] → (f_X4_all_B51_8 σb51_8 rc x1 y3b51) = some rr8 → zWk p l e ({ frames := (d + 1) + 3, cells := 0, slots := 0, locals := 23 * (d + 1) + 66 } : Room) s m args below meth c A (some (.int r)) (fun t => zG D aC A nl ad σ' t t.heap ∧ (r = 0 ∨ r = 1)) H locs (F0 m 51 ls []) := by
          intro y3b51  σb51_8 H locs ls hG hS hl hf
          unfold f_X4_all_B51_8 at hf
          refine lv_iconst (v := 0) hx hb dX4_all_51 (by decide) ?_
          exact KJ52_8 y3b51 0 σb51_8 H locs ls hG hS (lv_sub hl [0, 1, 2] rfl) hf
        refine lv_iload_n hx hb dX4_all_8 rfl (lv_at hl 3 rfl) ?_
        refine lv_sipush (v := 900) hx hb dX4_all_9 (by decide) ?_
        refine lv_icmp_ge (tgt := 59) hx hb dX4_all_12 (by decide) (fun c18 => ?_) (fun c18 => ?_)
        · have hf := zif_p c18 hf
          cases hf
          have hk8 : ((y2l8, σl8) : (Int32 × zM)) = t8 := hk8
          have hf := hfo8
          rw [← hk8] at hf
          have hf : ((zck (decide (y2l8 = 0 ∨ y2l8 = 1))).bind fun _ => some (y2l8, σl8)) = some (r, σ') := hf
          refine lv_iload_n hx hb dX4_all_59 rfl (lv_at hl 2 rfl) ?_
          obtain ⟨_, hzc, hf⟩ := zbi hf
          have hzc := of_decide_eq_true (zck_s hzc)
          obtain ⟨hq1, hq2⟩ := Prod.mk.inj (Option.some.inj hf)
          subst hq1
          subst hq2
          exact z_zret S hG hS hlocks hzc hr dX4_all_60
        · have hf := zif_n c18 hf
          refine lv_iload_n hx hb dX4_all_15 rfl (lv_at hl 2 rfl) ?_
          refine lv_if_eq (tgt := 59) hx hb dX4_all_16 (by decide) (fun c19 => ?_) (fun c19 => ?_)
          · have hf := zif_p c19 hf
            cases hf
            have hk8 : ((y2l8, σl8) : (Int32 × zM)) = t8 := hk8
            have hf := hfo8
            rw [← hk8] at hf
            have hf : ((zck (decide (y2l8 = 0 ∨ y2l8 = 1))).bind fun _ => some (y2l8, σl8)) = some (r, σ') := hf
            refine lv_iload_n hx hb dX4_all_59 rfl (lv_at hl 2 rfl) ?_
            obtain ⟨_, hzc, hf⟩ := zbi hf
            have hzc := of_decide_eq_true (zck_s hzc)
            obtain ⟨hq1, hq2⟩ := Prod.mk.inj (Option.some.inj hf)
            subst hq1
            subst hq2
            exact z_zret S hG hS hlocks hzc hr dX4_all_60
          · have hf := zif_n c19 hf
            refine lv_aload_n hx hb dX4_all_19 rfl (lv_at hl 0 rfl) ?_
            refine lv_bipush (v := 22) hx hb dX4_all_20 (by decide) ?_
            obtain ⟨q20, eq20, hf⟩ := zbi hf
            refine z_callV (n := 1) (rest := []) (st1 := [.int q20.1]) (c0 := 4) (i0 := 0) (hZ.2.1 (4, 0) (by decide)) (by rfl) S hG hS hZ (fun _ _ h => h) (c_X4_takeWord l D aC zs A nl ad σl8 22 q20.1 q20.2 eq20) zw_395 zw_396 zw_397 zw_27 zw_398 (by decide +kernel) ⟨rfl, rfl⟩ ⟨(by dsimp only; omega), (by dsimp only; omega)⟩ hl.1 rfl (by rfl) (by rfl) (Nat.le_of_ble_eq_true rfl) dX4_all_22 ⟨Nat.zero_le _, Nat.zero_le _⟩ (fun H locs hz21 hG hS => ?_)
            refine lv_if_eq (tgt := 59) hx hb dX4_all_25 (by decide) (fun c22 => ?_) (fun c22 => ?_)
            · have hf := zif_p c22 hf
              cases hf
              have hk8 : ((y2l8, q20.2) : (Int32 × zM)) = t8 := hk8
              have hf := hfo8
              rw [← hk8] at hf
              have hf : ((zck (decide (y2l8 = 0 ∨ y2l8 = 1))).bind fun _ => some (y2l8, q20.2)) = some (r, σ') := hf
              refine lv_iload_n hx hb dX4_all_59 rfl (lv_at hl 2 rfl) ?_
              obtain ⟨_, hzc, hf⟩ := zbi hf
              have hzc := of_decide_eq_true (zck_s hzc)
              obtain ⟨hq1, hq2⟩ := Prod.mk.inj (Option.some.inj hf)
              subst hq1
              subst hq2
              exact z_zret S hG hS hlocks hzc hr dX4_all_60
            · have hf := zif_n c22 hf
              refine lv_aload_n hx hb dX4_all_28 rfl (lv_at hl 0 rfl) ?_
              refine lv_iload_n hx hb dX4_all_29 rfl (lv_at hl 1 rfl) ?_
              obtain ⟨q23, eq23, hf⟩ := zbi hf
              refine z_callV (n := 1) (rest := []) (st1 := [.int q23.1]) (c0 := 4) (i0 := 0) (hZ.2.1 (4, 0) (by decide)) (by rfl) S hG hS hZ (fun _ _ h => h) (hrc.2.2 q20.2 x1 q23.1 q23.2 eq23) zw_464 zw_465 zw_466 zw_27 zw_467 (by decide +kernel) ⟨rfl, rfl⟩ ⟨(by dsimp only; omega), (by dsimp only; omega)⟩ hl.1 rfl (by rfl) (by rfl) (Nat.le_of_ble_eq_true rfl) dX4_all_30 ⟨Nat.zero_le _, Nat.zero_le _⟩ (fun H locs hz24 hG hS => ?_)
              refine lv_if_eq (tgt := 51) hx hb dX4_all_33 (by decide) (fun c25 => ?_) (fun c25 => ?_)
              · have hf := zif_p c25 hf
                exact KJ51_8 y3l8 q23.2 H locs ls hG hS (lv_sub hl [0, 1, 3] rfl) hf
              · have hf := zif_n c25 hf
                refine lv_aload_n hx hb dX4_all_36 rfl (lv_at hl 0 rfl) ?_
                refine z_get (c0 := 4) (i0 := 0) (k0 := 7) (T := TX4) (v := va_rf (Option.map (fun j => ad 0 j 0) (zR q23.2 4 0 7))) S hG (hZ.2.1 (4, 0) (by decide)) rfl inlX4 (by decide) rfl zw_117 rfl dX4_all_37 ?_
                rcases hE27 : (zR q23.2 4 0 7) with _ | j26
                · have hf := znu_n0 hE27 hf
                  refine W.eq (g2 := F0 m 40 ls [.null]) (by first | rfl | (rw [hE27]; rfl)) ?_
                  refine lv_iconst (v := (-1)) hx hb dX4_all_40 (by decide) ?_
                  cases hf
                · have hf := znu_s0 hE27 hf
                  refine W.eq (g2 := F0 m 40 ls [.ref (ad 0 j26 0)]) (by first | rfl | (rw [hE27]; rfl)) ?_
                  refine lv_iconst (v := (-1)) hx hb dX4_all_40 (by decide) ?_
                  obtain ⟨q28, eq28, hf⟩ := zbi hf
                  refine z_callV (n := 1) (rest := []) (st1 := [.int q28.1]) (c0 := 0) (i0 := j26) ((fun j h => hG.2.2.2.1 4 0 7 j rfl h) j26 hE27) (by rfl) S hG hS hZ (fun _ _ h => h) (c_X0_emit l D aC zs A nl ad q23.2 j26 (-1) q28.1 q28.2 ((fun j h => hG.2.2.2.1 4 0 7 j rfl h) j26 hE27) eq28) zw_459 zw_460 zw_461 zw_76 zw_462 (by decide +kernel) ⟨rfl, rfl⟩ ⟨(by dsimp only; omega), (by dsimp only; omega)⟩ hl.1 rfl (by rfl) (by rfl) (Nat.le_of_ble_eq_true rfl) dX4_all_41 ⟨Nat.zero_le _, Nat.zero_le _⟩ (fun H locs hz29 hG hS => ?_)
                  have Kv32 : ∀ (v32 : Int32) (ls : Array Slot), lv_has ls 4 [(0, .ref (ad 4 0 0)), (1, .int x1), (2, .int y2l8), (3, .int y3l8)] → (some (.inl (v32, (y3l8 + 1), q28.2))) = some rr8 → zWk p l e ({ frames := (d + 1) + 3, cells := 0, slots := 0, locals := 23 * (d + 1) + 66 } : Room) s m args below meth c A (some (.int r)) (fun t => zG D aC A nl ad σ' t t.heap ∧ (r = 0 ∨ r = 1)) H locs (F0 m 52 ls [.int v32]) := by
                    intro v32 ls hl hf
                    refine lv_istore_n (lv' := [(2, .int v32), (0, .ref (ad 4 0 0)), (1, .int x1), (3, .int y3l8)]) hx hb dX4_all_52 rfl hl (by decide) rfl (fun ls hl => ?_)
                    refine lv_iinc (v := (y3l8 + 1)) (lv' := [(3, .int (y3l8 + 1)), (2, .int v32), (0, .ref (ad 4 0 0)), (1, .int x1)]) hx hb dX4_all_53 hl (k := 3) rfl rfl (by decide) rfl (fun ls hl => ?_)
                    refine lv_goto (tgt := 8) hx hb dX4_all_56 (by decide) ?_
                    cases hf
                    exact ih8 v32 (y3l8 + 1) q28.2 H locs ls hG hS (lv_sub hl [2, 3, 1, 0] rfl) hk8
                  refine lv_if_eq (tgt := 51) hx hb dX4_all_44 (by decide) (fun c31 => ?_) (fun c31 => ?_)
                  · rw [if_pos c31] at hf
                    refine lv_iconst (v := 0) hx hb dX4_all_51 (by decide) ?_
                    exact Kv32 _ ls hl hf
                  · rw [if_neg c31] at hf
                    refine lv_iconst (v := 1) hx hb dX4_all_47 (by decide) ?_
                    refine lv_goto (tgt := 52) hx hb dX4_all_48 (by decide) ?_
                    exact Kv32 _ ls hl hf
    exact KL8 zFu q1.1 0 q1.2 H locs ls hG hS (lv_sub hl [2, 3, 1, 0] rfl) hw8
  exact hK0 _ _ ls hG hS hl hf
set_option maxRecDepth 100000 in
set_option maxHeartbeats 4000000 in
theorem c_X4_one_b (l : Launch) (D : va_G) (aC : Nat → ClassId) (zs : Nat × Nat) (A : Nat → Prop) (nl : zNL) (ad : Nat → Nat → Nat → Nat) (d : Nat) (rc : Nat → zM → Int32 → Option (Int32 × zM)) (hrc : zHR_X4_any l D aC zs A nl ad d rc) (σ : zM) (x1 : Int32) (r : Int32) (σ' : zM) (hf : f_X4_one σ rc x1 = some (r, σ')) : Met l yX4_one (Cond.code yX4_one cX4_one 3 (some .boolean) :: wsL_law) ({ frames := (d + 1) + 3, cells := 0, slots := 0, locals := 23 * (d + 1) + 66 } : Room) (zP D aC zs zfX A nl ad σ [.ref (ad 4 0 0), .int x1]) (zQ (some (.int r)) (fun t => zG D aC A nl ad σ' t t.heap ∧ (r = 0 ∨ r = 1)) A) 0 0 A := by
  unfold zHR_X4_any at hrc
  refine Met.ofW (cc := cX4_one) (maxL := 3) (ret := (some .boolean)) (by decide) rfl ?_
  intro p e s m args below meth c s₁ B hml hv
  obtain ⟨rfl, hG, hZ⟩ := hv
  have hx := B.exec
  have hb := B.bytes
  have hr := B.returns
  have hts : ∀ w ∈ wsL_law, w.before ([.ref (ad 4 0 0), .int x1] : List Value).toArray s = true := fun w h => (atoms_spec B.pre) w (List.mem_cons_of_mem _ h)
  have hown : s.vm.findClass RX4 = some m.cls := findClass_of_methodNamed B.named
  have hlocks := B.notSynchronized
  have S : zS p m c cX4_one 3 s ([.ref (ad 4 0 0), .int x1] : List Value).toArray RX4 := ⟨hx, hb, hml, hown, hts⟩
  have hS : va_S A s.heap s.heap [] := va_S.rf
  have hl := lv_entry ([.ref (ad 4 0 0), .int x1]) (n := 3) (Nat.le_of_ble_eq_true rfl)
  rw [lg_entry_eq]
  generalize (lg_sl ([.ref (ad 4 0 0), .int x1]) ++ List.replicate (3 - (lg_sl ([.ref (ad 4 0 0), .int x1])).length) Slot.unset).toArray = ls at hl ⊢
  have hl : lv_has ls 3 [(0, .ref (ad 4 0 0)), (1, .int x1)] := hl
  generalize hargs : ([.ref (ad 4 0 0), .int x1] : List Value).toArray = args at S hts ⊢
  clear hargs
  have KJ33 : ∀ (y2b33 : Int32)  (σb33 : zM) (H : Heap) (locs : List Loc) (ls : Array Slot), zG D aC A nl ad σb33 s H → va_S A s.heap H locs → lv_has ls 3 [(0, .ref (ad 4 0 0)), (1, .int x1), (2, .int y2b33)] → (f_X4_one_B33 σb33 rc x1 y2b33) = some (r, σ') → zWk p l e ({ frames := (d + 1) + 3, cells := 0, slots := 0, locals := 23 * (d + 1) + 66 } : Room) s m args below meth c A (some (.int r)) (fun t => zG D aC A nl ad σ' t t.heap ∧ (r = 0 ∨ r = 1)) H locs (F0 m 33 ls []) := by
    intro y2b33  σb33 H locs ls hG hS hl hf
    unfold f_X4_one_B33 at hf
    refine lv_iload_n hx hb dX4_one_33 rfl (lv_at hl 1 rfl) ?_
    refine lv_bipush (v := 10) hx hb dX4_one_34 (by decide) ?_
    refine lv_icmp_lt (tgt := 41) hx hb dX4_one_36 (by decide) (fun c7 => ?_) (fun c7 => ?_)
    · have hf := zif_p c7 hf
      refine lv_aload_n hx hb dX4_one_41 rfl (lv_at hl 0 rfl) ?_
      refine lv_dup hx hb dX4_one_42 rfl ?_
      refine z_get (c0 := 4) (i0 := 0) (k0 := 8) (T := TX4) (v := .int (zI σb33 4 0 8)) S hG (hZ.2.1 (4, 0) (by decide)) rfl inlX4 (by decide) rfl zw_118 rfl dX4_one_43 ?_
      refine lv_iconst (v := 1) hx hb dX4_one_46 (by decide) ?_
      refine lv_iadd hx hb dX4_one_47 ?_
      refine z_putI (c0 := 4) (i0 := 0) (k0 := 8) (T := TX4) S hG hS tyX4 tyX4_ok nmX4 (hZ.2.1 (4, 0) (by decide)) rfl inlX4 (by decide) rfl rfl zw_118 (by decide +kernel) rfl dX4_one_48 (fun H locs hG hS => ?_)
      obtain ⟨σ8, eσ8, hf⟩ := zlt_s hf
      rw [← eσ8] at hG
      refine lv_iload_n hx hb dX4_one_51 rfl (lv_at hl 2 rfl) ?_
      refine lv_if_eq (tgt := 83) hx hb dX4_one_52 (by decide) (fun c9 => ?_) (fun c9 => ?_)
      · have hf := zif_p c9 hf
        refine lv_aload_n hx hb dX4_one_83 rfl (lv_at hl 0 rfl) ?_
        refine lv_iload_n hx hb dX4_one_84 rfl (lv_at hl 1 rfl) ?_
        refine lv_iconst (v := 1) hx hb dX4_one_85 (by decide) ?_
        refine lv_iadd hx hb dX4_one_86 ?_
        obtain ⟨q10, eq10, hf⟩ := zbi hf
        refine z_callV (n := 1) (rest := []) (st1 := [.int q10.1]) (c0 := 4) (i0 := 0) (hZ.2.1 (4, 0) (by decide)) (by rfl) S hG hS hZ (fun _ _ h => h) (hrc.1 σ8 (x1 + 1) q10.1 q10.2 eq10) zw_452 zw_453 zw_454 zw_27 zw_455 (by decide +kernel) ⟨rfl, rfl⟩ ⟨(by dsimp only; omega), (by dsimp only; omega)⟩ hl.1 rfl (by rfl) (by rfl) (Nat.le_of_ble_eq_true rfl) dX4_one_87 ⟨Nat.zero_le _, Nat.zero_le _⟩ (fun H locs hz11 hG hS => ?_)
        refine lv_if_eq (tgt := 106) hx hb dX4_one_90 (by decide) (fun c12 => ?_) (fun c12 => ?_)
        · have hf := zif_p c12 hf
          refine lv_iconst (v := 0) hx hb dX4_one_106 (by decide) ?_
          obtain ⟨hq1, hq2⟩ := Prod.mk.inj (Option.some.inj hf)
          subst hq1
          subst hq2
          exact z_zret S hG hS hlocks (Or.inl rfl) hr dX4_one_107
        · have hf := zif_n c12 hf
          refine lv_aload_n hx hb dX4_one_93 rfl (lv_at hl 0 rfl) ?_
          refine lv_bipush (v := 41) hx hb dX4_one_94 (by decide) ?_
          obtain ⟨q13, eq13, hf⟩ := zbi hf
          refine z_callV (n := 1) (rest := []) (st1 := [.int q13.1]) (c0 := 4) (i0 := 0) (hZ.2.1 (4, 0) (by decide)) (by rfl) S hG hS hZ (fun _ _ h => h) (c_X4_takeSign l D aC zs A nl ad q10.2 41 q13.1 q13.2 eq13) zw_411 zw_412 zw_413 zw_27 zw_414 (by decide +kernel) ⟨rfl, rfl⟩ ⟨(by dsimp only; omega), (by dsimp only; omega)⟩ hl.1 rfl (by rfl) (by rfl) (Nat.le_of_ble_eq_true rfl) dX4_one_96 ⟨Nat.zero_le _, Nat.zero_le _⟩ (fun H locs hz14 hG hS => ?_)
          refine lv_if_eq (tgt := 106) hx hb dX4_one_99 (by decide) (fun c15 => ?_) (fun c15 => ?_)
          · have hf := zif_p c15 hf
            refine lv_iconst (v := 0) hx hb dX4_one_106 (by decide) ?_
            obtain ⟨hq1, hq2⟩ := Prod.mk.inj (Option.some.inj hf)
            subst hq1
            subst hq2
            exact z_zret S hG hS hlocks (Or.inl rfl) hr dX4_one_107
          · have hf := zif_n c15 hf
            refine lv_iconst (v := 1) hx hb dX4_one_102 (by decide) ?_
            refine lv_goto (tgt := 107) hx hb dX4_one_103 (by decide) ?_
            obtain ⟨hq1, hq2⟩ := Prod.mk.inj (Option.some.inj hf)
            subst hq1
            subst hq2
            exact z_zret S hG hS hlocks (Or.inr rfl) hr dX4_one_107
      · have hf := zif_n c9 hf
        refine lv_aload_n hx hb dX4_one_55 rfl (lv_at hl 0 rfl) ?_
        refine lv_iload_n hx hb dX4_one_56 rfl (lv_at hl 1 rfl) ?_
        refine lv_iconst (v := 1) hx hb dX4_one_57 (by decide) ?_
        refine lv_iadd hx hb dX4_one_58 ?_
        obtain ⟨q16, eq16, hf⟩ := zbi hf
        refine z_callV (n := 1) (rest := []) (st1 := [.int q16.1]) (c0 := 4) (i0 := 0) (hZ.2.1 (4, 0) (by decide)) (by rfl) S hG hS hZ (fun _ _ h => h) (hrc.2.2 σ8 (x1 + 1) q16.1 q16.2 eq16) zw_464 zw_465 zw_466 zw_27 zw_467 (by decide +kernel) ⟨rfl, rfl⟩ ⟨(by dsimp only; omega), (by dsimp only; omega)⟩ hl.1 rfl (by rfl) (by rfl) (Nat.le_of_ble_eq_true rfl) dX4_one_59 ⟨Nat.zero_le _, Nat.zero_le _⟩ (fun H locs hz17 hG hS => ?_)
        refine lv_if_eq (tgt := 81) hx hb dX4_one_62 (by decide) (fun c18 => ?_) (fun c18 => ?_)
        · have hf := zif_p c18 hf
          refine lv_iconst (v := 0) hx hb dX4_one_81 (by decide) ?_
          obtain ⟨hq1, hq2⟩ := Prod.mk.inj (Option.some.inj hf)
          subst hq1
          subst hq2
          exact z_zret S hG hS hlocks (Or.inl rfl) hr dX4_one_82
        · have hf := zif_n c18 hf
          refine lv_aload_n hx hb dX4_one_65 rfl (lv_at hl 0 rfl) ?_
          refine z_get (c0 := 4) (i0 := 0) (k0 := 7) (T := TX4) (v := va_rf (Option.map (fun j => ad 0 j 0) (zR q16.2 4 0 7))) S hG (hZ.2.1 (4, 0) (by decide)) rfl inlX4 (by decide) rfl zw_117 rfl dX4_one_66 ?_
          rcases hE20 : (zR q16.2 4 0 7) with _ | j19
          · have hf := znu_n0 hE20 hf
            refine W.eq (g2 := F0 m 69 ls [.null]) (by first | rfl | (rw [hE20]; rfl)) ?_
            refine lv_bipush (v := (-3)) hx hb dX4_one_69 (by decide) ?_
            cases hf
          · have hf := znu_s0 hE20 hf
            refine W.eq (g2 := F0 m 69 ls [.ref (ad 0 j19 0)]) (by first | rfl | (rw [hE20]; rfl)) ?_
            refine lv_bipush (v := (-3)) hx hb dX4_one_69 (by decide) ?_
            obtain ⟨q21, eq21, hf⟩ := zbi hf
            refine z_callV (n := 1) (rest := []) (st1 := [.int q21.1]) (c0 := 0) (i0 := j19) ((fun j h => hG.2.2.2.1 4 0 7 j rfl h) j19 hE20) (by rfl) S hG hS hZ (fun _ _ h => h) (c_X0_emit l D aC zs A nl ad q16.2 j19 (-3) q21.1 q21.2 ((fun j h => hG.2.2.2.1 4 0 7 j rfl h) j19 hE20) eq21) zw_459 zw_460 zw_461 zw_76 zw_462 (by decide +kernel) ⟨rfl, rfl⟩ ⟨(by dsimp only; omega), (by dsimp only; omega)⟩ hl.1 rfl (by rfl) (by rfl) (Nat.le_of_ble_eq_true rfl) dX4_one_71 ⟨Nat.zero_le _, Nat.zero_le _⟩ (fun H locs hz22 hG hS => ?_)
            refine lv_if_eq (tgt := 81) hx hb dX4_one_74 (by decide) (fun c23 => ?_) (fun c23 => ?_)
            · have hf := zif_p c23 hf
              refine lv_iconst (v := 0) hx hb dX4_one_81 (by decide) ?_
              obtain ⟨hq1, hq2⟩ := Prod.mk.inj (Option.some.inj hf)
              subst hq1
              subst hq2
              exact z_zret S hG hS hlocks (Or.inl rfl) hr dX4_one_82
            · have hf := zif_n c23 hf
              refine lv_iconst (v := 1) hx hb dX4_one_77 (by decide) ?_
              refine lv_goto (tgt := 82) hx hb dX4_one_78 (by decide) ?_
              obtain ⟨hq1, hq2⟩ := Prod.mk.inj (Option.some.inj hf)
              subst hq1
              subst hq2
              exact z_zret S hG hS hlocks (Or.inr rfl) hr dX4_one_82
    · have hf := zif_n c7 hf
      refine lv_iconst (v := 0) hx hb dX4_one_39 (by decide) ?_
      obtain ⟨hq1, hq2⟩ := Prod.mk.inj (Option.some.inj hf)
      subst hq1
      subst hq2
      exact z_zret S hG hS hlocks (Or.inl rfl) hr dX4_one_40
  have hK0 : ∀ (H : Heap) (locs : List Loc) (ls : Array Slot), zG D aC A nl ad σ s H → va_S A s.heap H locs → lv_has ls 3 [(0, .ref (ad 4 0 0)), (1, .int x1)] → f_X4_one σ rc x1 = some (r, σ') → zWk p l e ({ frames := (d + 1) + 3, cells := 0, slots := 0, locals := 23 * (d + 1) + 66 } : Room) s m args below meth c A (some (.int r)) (fun t => zG D aC A nl ad σ' t t.heap ∧ (r = 0 ∨ r = 1)) H locs (F0 m 0 ls []) := by
    intro H locs ls hG hS hl hf
    unfold f_X4_one at hf
    refine lv_aload_n hx hb dX4_one_0 rfl (lv_at hl 0 rfl) ?_
    obtain ⟨r1, er1, hf⟩ := zbi hf
    refine z_callV (n := 0) (rest := []) (st1 := [.int r1]) (c0 := 4) (i0 := 0) (hZ.2.1 (4, 0) (by decide)) (by rfl) S hG hS hZ (fun _ _ h => h) (c_X4_keyword l D aC zs A nl ad σ r1 er1) zw_370 zw_371 zw_372 zw_27 zw_373 (by decide +kernel) ⟨rfl, rfl⟩ ⟨(by dsimp only; omega), (by dsimp only; omega)⟩ hl.1 rfl (by rfl) (by rfl) (Nat.le_of_ble_eq_true rfl) dX4_one_1 ⟨Nat.zero_le _, Nat.zero_le _⟩ (fun H locs hz2 hG hS => ?_)
    refine lv_bipush (v := 23) hx hb dX4_one_4 (by decide) ?_
    have Kv5 : ∀ (v5 : Int32) (ls : Array Slot), lv_has ls 3 [(0, .ref (ad 4 0 0)), (1, .int x1)] → (if v5 = 0 then ((f_X4_isSign σ 40).bind fun r30 => if r30 = 0 then ((f_X4_comparison σ).bind fun q33 => some (q33.1, q33.2)) else (f_X4_one_B33 σ rc x1 v5)) else (f_X4_one_B33 σ rc x1 v5)) = some (r, σ') → zWk p l e ({ frames := (d + 1) + 3, cells := 0, slots := 0, locals := 23 * (d + 1) + 66 } : Room) s m args below meth c A (some (.int r)) (fun t => zG D aC A nl ad σ' t t.heap ∧ (r = 0 ∨ r = 1)) H locs (F0 m 14 ls [.int v5]) := by
      intro v5 ls hl hf
      refine lv_istore_n (lv' := [(2, .int v5), (0, .ref (ad 4 0 0)), (1, .int x1)]) hx hb dX4_one_14 rfl hl (by decide) rfl (fun ls hl => ?_)
      refine lv_iload_n hx hb dX4_one_15 rfl (lv_at hl 0 rfl) ?_
      refine lv_if_ne (tgt := 33) hx hb dX4_one_16 (by decide) (fun c29 => ?_) (fun c29 => ?_)
      · have hf := zif_n c29 hf
        exact KJ33 v5 σ H locs ls hG hS (lv_sub hl [1, 2, 0] rfl) hf
      · have hf := zif_p c29 hf
        refine lv_aload_n hx hb dX4_one_19 rfl (lv_at hl 1 rfl) ?_
        refine lv_bipush (v := 40) hx hb dX4_one_20 (by decide) ?_
        obtain ⟨r30, er30, hf⟩ := zbi hf
        refine z_callV (n := 1) (rest := []) (st1 := [.int r30]) (c0 := 4) (i0 := 0) (hZ.2.1 (4, 0) (by decide)) (by rfl) S hG hS hZ (fun _ _ h => h) (c_X4_isSign l D aC zs A nl ad σ 40 r30 er30) zw_468 zw_469 zw_470 zw_27 zw_471 (by decide +kernel) ⟨rfl, rfl⟩ ⟨(by dsimp only; omega), (by dsimp only; omega)⟩ hl.1 rfl (by rfl) (by rfl) (Nat.le_of_ble_eq_true rfl) dX4_one_22 ⟨Nat.zero_le _, Nat.zero_le _⟩ (fun H locs hz31 hG hS => ?_)
        refine lv_if_ne (tgt := 33) hx hb dX4_one_25 (by decide) (fun c32 => ?_) (fun c32 => ?_)
        · have hf := zif_n c32 hf
          exact KJ33 v5 σ H locs ls hG hS (lv_sub hl [1, 2, 0] rfl) hf
        · have hf := zif_p c32 hf
          refine lv_aload_n hx hb dX4_one_28 rfl (lv_at hl 1 rfl) ?_
          obtain ⟨q33, eq33, hf⟩ := zbi hf
          refine z_callV (n := 0) (rest := []) (st1 := [.int q33.1]) (c0 := 4) (i0 := 0) (hZ.2.1 (4, 0) (by decide)) (by rfl) S hG hS hZ (fun _ _ h => h) (c_X4_comparison l D aC zs A nl ad σ q33.1 q33.2 eq33) zw_472 zw_473 zw_474 zw_27 zw_475 (by decide +kernel) ⟨rfl, rfl⟩ ⟨(by dsimp only; omega), (by dsimp only; omega)⟩ hl.1 rfl (by rfl) (by rfl) (Nat.le_of_ble_eq_true rfl) dX4_one_29 ⟨Nat.zero_le _, Nat.zero_le _⟩ (fun H locs hz34 hG hS => ?_)
          obtain ⟨hq1, hq2⟩ := Prod.mk.inj (Option.some.inj hf)
          subst hq1
          subst hq2
          exact z_zret S hG hS hlocks hz34 hr dX4_one_32
    refine lv_icmp_ne (tgt := 13) hx hb dX4_one_6 (by decide) (fun c4 => ?_) (fun c4 => ?_)
    · rw [if_neg c4] at hf
      refine lv_iconst (v := 0) hx hb dX4_one_13 (by decide) ?_
      exact Kv5 _ ls hl hf
    · rw [if_pos c4] at hf
      refine lv_iconst (v := 1) hx hb dX4_one_9 (by decide) ?_
      refine lv_goto (tgt := 14) hx hb dX4_one_10 (by decide) ?_
      exact Kv5 _ ls hl hf
  exact hK0 _ _ ls hG hS hl hf
theorem c_X4_any_rec (l : Launch) (D : va_G) (aC : Nat → ClassId) (zs : Nat × Nat) (A : Nat → Prop) (nl : zNL) (ad : Nat → Nat → Nat → Nat) : ∀ d, zHR_X4_any l D aC zs A nl ad d (f_X4_any_rec d) := by
  intro d
  induction d with
  | zero =>
    unfold zHR_X4_any
    exact ⟨fun σ x1 r σ' h => (by cases h), fun σ x1 r σ' h => (by cases h), fun σ x1 r σ' h => (by cases h)⟩
  | succ d ih =>
    unfold zHR_X4_any
    exact ⟨fun σ x1 r σ' h => c_X4_any_b l D aC zs A nl ad d (f_X4_any_rec d) ih σ x1 r σ' h, fun σ x1 r σ' h => c_X4_all_b l D aC zs A nl ad d (f_X4_any_rec d) ih σ x1 r σ' h, fun σ x1 r σ' h => c_X4_one_b l D aC zs A nl ad d (f_X4_any_rec d) ih σ x1 r σ' h⟩
theorem c_X4_any (l : Launch) (D : va_G) (aC : Nat → ClassId) (zs : Nat × Nat) (A : Nat → Prop) (nl : zNL) (ad : Nat → Nat → Nat → Nat) (σ : zM) (x1 : Int32) (r : Int32) (σ' : zM) (hf : f_X4_any_rec 60 0 σ x1 = some (r, σ')) : Met l yX4_any (Cond.code yX4_any cX4_any 4 (some .boolean) :: wsL_law) ({ frames := 60 + 3, cells := 0, slots := 0, locals := 23 * 60 + 66 } : Room) (zP D aC zs zfX A nl ad σ [.ref (ad 4 0 0), .int x1]) (zQ (some (.int r)) (fun t => zG D aC A nl ad σ' t t.heap ∧ (r = 0 ∨ r = 1)) A) 0 0 A := (c_X4_any_rec l D aC zs A nl ad 60).1 σ x1 r σ' hf
theorem c_X4_all (l : Launch) (D : va_G) (aC : Nat → ClassId) (zs : Nat × Nat) (A : Nat → Prop) (nl : zNL) (ad : Nat → Nat → Nat → Nat) (σ : zM) (x1 : Int32) (r : Int32) (σ' : zM) (hf : f_X4_any_rec 60 1 σ x1 = some (r, σ')) : Met l yX4_all (Cond.code yX4_all cX4_all 4 (some .boolean) :: wsL_law) ({ frames := 60 + 3, cells := 0, slots := 0, locals := 23 * 60 + 66 } : Room) (zP D aC zs zfX A nl ad σ [.ref (ad 4 0 0), .int x1]) (zQ (some (.int r)) (fun t => zG D aC A nl ad σ' t t.heap ∧ (r = 0 ∨ r = 1)) A) 0 0 A := (c_X4_any_rec l D aC zs A nl ad 60).2.1 σ x1 r σ' hf
theorem c_X4_one (l : Launch) (D : va_G) (aC : Nat → ClassId) (zs : Nat × Nat) (A : Nat → Prop) (nl : zNL) (ad : Nat → Nat → Nat → Nat) (σ : zM) (x1 : Int32) (r : Int32) (σ' : zM) (hf : f_X4_any_rec 60 2 σ x1 = some (r, σ')) : Met l yX4_one (Cond.code yX4_one cX4_one 3 (some .boolean) :: wsL_law) ({ frames := 60 + 3, cells := 0, slots := 0, locals := 23 * 60 + 66 } : Room) (zP D aC zs zfX A nl ad σ [.ref (ad 4 0 0), .int x1]) (zQ (some (.int r)) (fun t => zG D aC A nl ad σ' t t.heap ∧ (r = 0 ∨ r = 1)) A) 0 0 A := (c_X4_any_rec l D aC zs A nl ad 60).2.2 σ x1 r σ' hf
def zHR_X12_any (l : Launch) (D : va_G) (aC : Nat → ClassId) (zs : Nat × Nat) (A : Nat → Prop) (nl : zNL) (ad : Nat → Nat → Nat → Nat) (d : Nat) (rc : Nat → zM → Option (Int32 × zM)) : Prop := (∀ (σ : zM)  (r : Int32) (σ' : zM) , rc 0 σ  = some (r, σ') → Met l yX12_any (Cond.code yX12_any cX12_any 4 (some .int) :: wsL_law) ({ frames := d + 3, cells := 0, slots := 0, locals := 23 * d + 65 } : Room) (zP D aC zs zfM A nl ad σ [.ref (ad 12 0 0)]) (zQ (some (.int r)) (fun t => zG D aC A nl ad σ' t t.heap ∧ True) A) 0 0 A) ∧ (∀ (σ : zM)  (r : Int32) (σ' : zM) , rc 1 σ  = some (r, σ') → Met l yX12_all (Cond.code yX12_all cX12_all 4 (some .int) :: wsL_law) ({ frames := d + 3, cells := 0, slots := 0, locals := 23 * d + 65 } : Room) (zP D aC zs zfM A nl ad σ [.ref (ad 12 0 0)]) (zQ (some (.int r)) (fun t => zG D aC A nl ad σ' t t.heap ∧ True) A) 0 0 A) ∧ (∀ (σ : zM)  (r : Int32) (σ' : zM) , rc 2 σ  = some (r, σ') → Met l yX12_single (Cond.code yX12_single cX12_single 3 (some .int) :: wsL_law) ({ frames := d + 3, cells := 0, slots := 0, locals := 23 * d + 65 } : Room) (zP D aC zs zfM A nl ad σ [.ref (ad 12 0 0)]) (zQ (some (.int r)) (fun t => zG D aC A nl ad σ' t t.heap ∧ True) A) 0 0 A)
set_option maxRecDepth 100000 in
set_option maxHeartbeats 4000000 in
theorem c_X12_any_b (l : Launch) (D : va_G) (aC : Nat → ClassId) (zs : Nat × Nat) (A : Nat → Prop) (nl : zNL) (ad : Nat → Nat → Nat → Nat) (d : Nat) (rc : Nat → zM → Option (Int32 × zM)) (hrc : zHR_X12_any l D aC zs A nl ad d rc) (σ : zM)  (r : Int32) (σ' : zM) (hf : f_X12_any σ rc  = some (r, σ')) : Met l yX12_any (Cond.code yX12_any cX12_any 4 (some .int) :: wsL_law) ({ frames := (d + 1) + 3, cells := 0, slots := 0, locals := 23 * (d + 1) + 65 } : Room) (zP D aC zs zfM A nl ad σ [.ref (ad 12 0 0)]) (zQ (some (.int r)) (fun t => zG D aC A nl ad σ' t t.heap ∧ True) A) 0 0 A := by
  unfold zHR_X12_any at hrc
  refine Met.ofW (cc := cX12_any) (maxL := 4) (ret := (some .int)) (by decide) rfl ?_
  intro p e s m args below meth c s₁ B hml hv
  obtain ⟨rfl, hG, hZ⟩ := hv
  have hx := B.exec
  have hb := B.bytes
  have hr := B.returns
  have hts : ∀ w ∈ wsL_law, w.before ([.ref (ad 12 0 0)] : List Value).toArray s = true := fun w h => (atoms_spec B.pre) w (List.mem_cons_of_mem _ h)
  have hown : s.vm.findClass RX12 = some m.cls := findClass_of_methodNamed B.named
  have hlocks := B.notSynchronized
  have S : zS p m c cX12_any 4 s ([.ref (ad 12 0 0)] : List Value).toArray RX12 := ⟨hx, hb, hml, hown, hts⟩
  have hS : va_S A s.heap s.heap [] := va_S.rf
  have hl := lv_entry ([.ref (ad 12 0 0)]) (n := 4) (Nat.le_of_ble_eq_true rfl)
  rw [lg_entry_eq]
  generalize (lg_sl ([.ref (ad 12 0 0)]) ++ List.replicate (4 - (lg_sl ([.ref (ad 12 0 0)])).length) Slot.unset).toArray = ls at hl ⊢
  have hl : lv_has ls 4 [(0, .ref (ad 12 0 0))] := hl
  generalize hargs : ([.ref (ad 12 0 0)] : List Value).toArray = args at S hts ⊢
  clear hargs
  have hK0 : ∀ (H : Heap) (locs : List Loc) (ls : Array Slot), zG D aC A nl ad σ s H → va_S A s.heap H locs → lv_has ls 4 [(0, .ref (ad 12 0 0))] → f_X12_any σ rc  = some (r, σ') → zWk p l e ({ frames := (d + 1) + 3, cells := 0, slots := 0, locals := 23 * (d + 1) + 65 } : Room) s m args below meth c A (some (.int r)) (fun t => zG D aC A nl ad σ' t t.heap ∧ True) H locs (F0 m 0 ls []) := by
    intro H locs ls hG hS hl hf
    unfold f_X12_any at hf
    refine lv_aload_n hx hb dX12_any_0 rfl (lv_at hl 0 rfl) ?_
    refine lv_iconst (v := 0) hx hb dX12_any_1 (by decide) ?_
    obtain ⟨q1, eq1, hf⟩ := zbi hf
    refine z_callV (n := 1) (rest := []) (st1 := [.int q1.1]) (c0 := 12) (i0 := 0) (hZ.2.1 (12, 0) (by decide)) (by rfl) S hG hS hZ (fun _ _ h => h) (c_X12_node l D aC zs A nl ad σ 0 q1.1 q1.2 eq1) zw_631 zw_632 zw_633 zw_5 zw_634 (by decide +kernel) ⟨rfl, rfl⟩ ⟨(by dsimp only; omega), (by dsimp only; omega)⟩ hl.1 rfl (by rfl) (by rfl) (Nat.le_of_ble_eq_true rfl) dX12_any_2 ⟨Nat.zero_le _, Nat.zero_le _⟩ (fun H locs hz2 hG hS => ?_)
    refine lv_istore_n (lv' := [(1, .int q1.1), (0, .ref (ad 12 0 0))]) hx hb dX12_any_5 rfl hl (by decide) rfl (fun ls hl => ?_)
    refine lv_iconst (v := (-1)) hx hb dX12_any_6 (by decide) ?_
    refine lv_istore_n (lv' := [(2, .int (-1)), (1, .int q1.1), (0, .ref (ad 12 0 0))]) hx hb dX12_any_7 rfl hl (by decide) rfl (fun ls hl => ?_)
    obtain ⟨t8, hw8, hfo8⟩ := zbi hf
    have KL8 : ∀ (n : Nat) (y2l8 : Int32) (σl8 : zM) (H : Heap) (locs : List Loc) (ls : Array Slot), zG D aC A nl ad σl8 s H → va_S A s.heap H locs → lv_has ls 4 [(0, .ref (ad 12 0 0)), (1, .int q1.1), (2, .int y2l8)] → zwh (fun (q : (Int32 × zM)) => f_X12_any_L8 rc  q1.1 q.1 q.2) n (y2l8, σl8) = some t8 → zWk p l e ({ frames := (d + 1) + 3, cells := 0, slots := 0, locals := 23 * (d + 1) + 65 } : Room) s m args below meth c A (some (.int r)) (fun t => zG D aC A nl ad σ' t t.heap ∧ True) H locs (F0 m 8 ls []) := by
      intro n
      induction n with
      | zero =>
        intro y2l8 σl8 H locs ls hG hS hl hw
        exact (zwh_0 hw).elim
      | succ n ih8 =>
        intro y2l8 σl8 H locs ls hG hS hl hw
        obtain ⟨rr8, hf, hk8⟩ := zwh_u hw
        have hf : f_X12_any_L8 rc  q1.1 y2l8 σl8 = some rr8 := hf
        unfold f_X12_any_L8 at hf
        have KJ42_8 : ∀ (y3b42 : Int32)  (σb42_8 : zM) (H : Heap) (locs : List Loc) (ls : Array Slot), zG D aC A nl ad σb42_8 s H → va_S A s.heap H locs → lv_has ls 4 [(0, .ref (ad 12 0 0)), (1, .int q1.1), (3, .int y3b42)] → (f_X12_any_B42_8 σb42_8 rc  q1.1 y3b42) = some rr8 → zWk p l e ({ frames := (d + 1) + 3, cells := 0, slots := 0, locals := 23 * (d + 1) + 65 } : Room) s m args below meth c A (some (.int r)) (fun t => zG D aC A nl ad σ' t t.heap ∧ True) H locs (F0 m 42 ls []) := by
          intro y3b42  σb42_8 H locs ls hG hS hl hf
          unfold f_X12_any_B42_8 at hf
          refine lv_iload_n hx hb dX12_any_42 rfl (lv_at hl 2 rfl) ?_
          refine lv_istore_n (lv' := [(2, .int y3b42), (0, .ref (ad 12 0 0)), (1, .int q1.1), (3, .int y3b42)]) hx hb dX12_any_43 rfl hl (by decide) rfl (fun ls hl => ?_)
          refine lv_aload_n hx hb dX12_any_44 rfl (lv_at hl 1 rfl) ?_
          refine lv_ldc2 (v := 28530) hx hb hown (hts _ zw_577) dX12_any_45 ?_
          obtain ⟨q20, eq20, hf⟩ := zbi hf
          refine z_callV (n := 1) (rest := []) (st1 := [.int q20.1]) (c0 := 12) (i0 := 0) (hZ.2.1 (12, 0) (by decide)) (by rfl) S hG hS hZ (fun _ _ h => h) (c_X12_takes l D aC zs A nl ad σb42_8 28530 q20.1 q20.2 eq20) zw_546 zw_547 zw_548 zw_5 zw_549 (by decide +kernel) ⟨rfl, rfl⟩ ⟨(by dsimp only; omega), (by dsimp only; omega)⟩ hl.1 rfl (by rfl) (by rfl) (Nat.le_of_ble_eq_true rfl) dX12_any_48 ⟨Nat.zero_le _, Nat.zero_le _⟩ (fun H locs hz21 hG hS => ?_)
          refine lv_if_ne (tgt := 8) hx hb dX12_any_51 (by decide) (fun c22 => ?_) (fun c22 => ?_)
          · have hf := zif_n c22 hf
            cases hf
            exact ih8 y3b42 q20.2 H locs ls hG hS (lv_sub hl [1, 2, 0] rfl) hk8
          · have hf := zif_p c22 hf
            cases hf
            have hk8 : ((.inr q20.2) : (zM ⊕ zM)) = t8 := hk8
            have hf := hfo8
            rw [← hk8] at hf
            have hf : (some (q1.1, q20.2)) = some (r, σ') := hf
            refine lv_iload_n hx hb dX12_any_54 rfl (lv_at hl 2 rfl) ?_
            obtain ⟨hq1, hq2⟩ := Prod.mk.inj (Option.some.inj hf)
            subst hq1
            subst hq2
            exact z_iret S hG hS hlocks trivial hr dX12_any_55
        refine lv_aload_n hx hb dX12_any_8 rfl (lv_at hl 0 rfl) ?_
        obtain ⟨q14, eq14, hf⟩ := zbi hf
        refine z_callV (n := 0) (rest := []) (st1 := [.int q14.1]) (c0 := 12) (i0 := 0) (hZ.2.1 (12, 0) (by decide)) (by rfl) S hG hS hZ (fun _ _ h => h) (hrc.2.1 σl8 q14.1 q14.2 eq14) zw_635 zw_636 zw_637 zw_5 zw_638 (by decide +kernel) ⟨rfl, rfl⟩ ⟨(by dsimp only; omega), (by dsimp only; omega)⟩ hl.1 rfl (by rfl) (by rfl) (Nat.le_of_ble_eq_true rfl) dX12_any_9 ⟨Nat.zero_le _, Nat.zero_le _⟩ (fun H locs hz15 hG hS => ?_)
        refine lv_istore_n (lv' := [(3, .int q14.1), (0, .ref (ad 12 0 0)), (1, .int q1.1), (2, .int y2l8)]) hx hb dX12_any_12 rfl hl (by decide) rfl (fun ls hl => ?_)
        refine lv_iload_n hx hb dX12_any_13 rfl (lv_at hl 0 rfl) ?_
        refine lv_iconst (v := (-1)) hx hb dX12_any_14 (by decide) ?_
        refine lv_icmp_ne (tgt := 20) hx hb dX12_any_15 (by decide) (fun c16 => ?_) (fun c16 => ?_)
        · have hf := zif_n c16 hf
          refine lv_iload_n hx hb dX12_any_20 rfl (lv_at hl 3 rfl) ?_
          refine lv_iconst (v := (-1)) hx hb dX12_any_21 (by decide) ?_
          refine lv_icmp_ne (tgt := 35) hx hb dX12_any_22 (by decide) (fun c17 => ?_) (fun c17 => ?_)
          · have hf := zif_n c17 hf
            refine lv_aload_n hx hb dX12_any_35 rfl (lv_at hl 1 rfl) ?_
            refine z_get (c0 := 12) (i0 := 0) (k0 := 33) (T := TX12) (v := .ref (ad 12 0 34)) S hG (hZ.2.1 (12, 0) (by decide)) rfl inlX12 (by decide) rfl zw_245 rfl dX12_any_36 ?_
            refine lv_iload_n hx hb dX12_any_39 rfl (lv_at hl 3 rfl) ?_
            refine lv_iload_n hx hb dX12_any_40 rfl (lv_at hl 0 rfl) ?_
            obtain ⟨i18, hi18, hf⟩ := zbi hf
            refine z_iast (c0 := 12) (i0 := 0) (k0 := 33) S hG hS (hZ.2.1 (12, 0) (by decide)) (by decide) rfl hi18 dX12_any_41 (fun H locs hG hS => ?_)
            obtain ⟨σ19, eσ19, hf⟩ := zlt_s hf
            rw [← eσ19] at hG
            exact KJ42_8 q14.1 σ19 H locs ls hG hS (lv_sub hl [1, 2, 0] rfl) hf
          · have hf := zif_p c17 hf
            refine lv_aload_n hx hb dX12_any_25 rfl (lv_at hl 1 rfl) ?_
            refine z_get (c0 := 12) (i0 := 0) (k0 := 32) (T := TX12) (v := .ref (ad 12 0 33)) S hG (hZ.2.1 (12, 0) (by decide)) rfl inlX12 (by decide) rfl zw_244 rfl dX12_any_26 ?_
            refine lv_iload_n hx hb dX12_any_29 rfl (lv_at hl 2 rfl) ?_
            refine lv_iload_n hx hb dX12_any_30 rfl (lv_at hl 0 rfl) ?_
            obtain ⟨i23, hi23, hf⟩ := zbi hf
            refine z_iast (c0 := 12) (i0 := 0) (k0 := 32) S hG hS (hZ.2.1 (12, 0) (by decide)) (by decide) rfl hi23 dX12_any_31 (fun H locs hG hS => ?_)
            obtain ⟨σ24, eσ24, hf⟩ := zlt_s hf
            rw [← eσ24] at hG
            refine lv_goto (tgt := 42) hx hb dX12_any_32 (by decide) ?_
            exact KJ42_8 q14.1 σ24 H locs ls hG hS (lv_sub hl [1, 2, 0] rfl) hf
        · have hf := zif_p c16 hf
          cases hf
          have hk8 : ((.inl q14.2) : (zM ⊕ zM)) = t8 := hk8
          have hf := hfo8
          rw [← hk8] at hf
          have hf : (some ((-1), q14.2)) = some (r, σ') := hf
          refine lv_iconst (v := (-1)) hx hb dX12_any_18 (by decide) ?_
          obtain ⟨hq1, hq2⟩ := Prod.mk.inj (Option.some.inj hf)
          subst hq1
          subst hq2
          exact z_iret S hG hS hlocks trivial hr dX12_any_19
    exact KL8 zFu (-1) q1.2 H locs ls hG hS (lv_sub hl [2, 1, 0] rfl) hw8
  exact hK0 _ _ ls hG hS hl hf
set_option maxRecDepth 100000 in
set_option maxHeartbeats 4000000 in
theorem c_X12_all_b (l : Launch) (D : va_G) (aC : Nat → ClassId) (zs : Nat × Nat) (A : Nat → Prop) (nl : zNL) (ad : Nat → Nat → Nat → Nat) (d : Nat) (rc : Nat → zM → Option (Int32 × zM)) (hrc : zHR_X12_any l D aC zs A nl ad d rc) (σ : zM)  (r : Int32) (σ' : zM) (hf : f_X12_all σ rc  = some (r, σ')) : Met l yX12_all (Cond.code yX12_all cX12_all 4 (some .int) :: wsL_law) ({ frames := (d + 1) + 3, cells := 0, slots := 0, locals := 23 * (d + 1) + 65 } : Room) (zP D aC zs zfM A nl ad σ [.ref (ad 12 0 0)]) (zQ (some (.int r)) (fun t => zG D aC A nl ad σ' t t.heap ∧ True) A) 0 0 A := by
  unfold zHR_X12_any at hrc
  refine Met.ofW (cc := cX12_all) (maxL := 4) (ret := (some .int)) (by decide) rfl ?_
  intro p e s m args below meth c s₁ B hml hv
  obtain ⟨rfl, hG, hZ⟩ := hv
  have hx := B.exec
  have hb := B.bytes
  have hr := B.returns
  have hts : ∀ w ∈ wsL_law, w.before ([.ref (ad 12 0 0)] : List Value).toArray s = true := fun w h => (atoms_spec B.pre) w (List.mem_cons_of_mem _ h)
  have hown : s.vm.findClass RX12 = some m.cls := findClass_of_methodNamed B.named
  have hlocks := B.notSynchronized
  have S : zS p m c cX12_all 4 s ([.ref (ad 12 0 0)] : List Value).toArray RX12 := ⟨hx, hb, hml, hown, hts⟩
  have hS : va_S A s.heap s.heap [] := va_S.rf
  have hl := lv_entry ([.ref (ad 12 0 0)]) (n := 4) (Nat.le_of_ble_eq_true rfl)
  rw [lg_entry_eq]
  generalize (lg_sl ([.ref (ad 12 0 0)]) ++ List.replicate (4 - (lg_sl ([.ref (ad 12 0 0)])).length) Slot.unset).toArray = ls at hl ⊢
  have hl : lv_has ls 4 [(0, .ref (ad 12 0 0))] := hl
  generalize hargs : ([.ref (ad 12 0 0)] : List Value).toArray = args at S hts ⊢
  clear hargs
  have hK0 : ∀ (H : Heap) (locs : List Loc) (ls : Array Slot), zG D aC A nl ad σ s H → va_S A s.heap H locs → lv_has ls 4 [(0, .ref (ad 12 0 0))] → f_X12_all σ rc  = some (r, σ') → zWk p l e ({ frames := (d + 1) + 3, cells := 0, slots := 0, locals := 23 * (d + 1) + 65 } : Room) s m args below meth c A (some (.int r)) (fun t => zG D aC A nl ad σ' t t.heap ∧ True) H locs (F0 m 0 ls []) := by
    intro H locs ls hG hS hl hf
    unfold f_X12_all at hf
    refine lv_aload_n hx hb dX12_all_0 rfl (lv_at hl 0 rfl) ?_
    refine lv_iconst (v := 1) hx hb dX12_all_1 (by decide) ?_
    obtain ⟨q1, eq1, hf⟩ := zbi hf
    refine z_callV (n := 1) (rest := []) (st1 := [.int q1.1]) (c0 := 12) (i0 := 0) (hZ.2.1 (12, 0) (by decide)) (by rfl) S hG hS hZ (fun _ _ h => h) (c_X12_node l D aC zs A nl ad σ 1 q1.1 q1.2 eq1) zw_631 zw_632 zw_633 zw_5 zw_634 (by decide +kernel) ⟨rfl, rfl⟩ ⟨(by dsimp only; omega), (by dsimp only; omega)⟩ hl.1 rfl (by rfl) (by rfl) (Nat.le_of_ble_eq_true rfl) dX12_all_2 ⟨Nat.zero_le _, Nat.zero_le _⟩ (fun H locs hz2 hG hS => ?_)
    refine lv_istore_n (lv' := [(1, .int q1.1), (0, .ref (ad 12 0 0))]) hx hb dX12_all_5 rfl hl (by decide) rfl (fun ls hl => ?_)
    refine lv_iconst (v := (-1)) hx hb dX12_all_6 (by decide) ?_
    refine lv_istore_n (lv' := [(2, .int (-1)), (1, .int q1.1), (0, .ref (ad 12 0 0))]) hx hb dX12_all_7 rfl hl (by decide) rfl (fun ls hl => ?_)
    obtain ⟨t8, hw8, hfo8⟩ := zbi hf
    have KL8 : ∀ (n : Nat) (y2l8 : Int32) (σl8 : zM) (H : Heap) (locs : List Loc) (ls : Array Slot), zG D aC A nl ad σl8 s H → va_S A s.heap H locs → lv_has ls 4 [(0, .ref (ad 12 0 0)), (1, .int q1.1), (2, .int y2l8)] → zwh (fun (q : (Int32 × zM)) => f_X12_all_L8 rc  q1.1 q.1 q.2) n (y2l8, σl8) = some t8 → zWk p l e ({ frames := (d + 1) + 3, cells := 0, slots := 0, locals := 23 * (d + 1) + 65 } : Room) s m args below meth c A (some (.int r)) (fun t => zG D aC A nl ad σ' t t.heap ∧ True) H locs (F0 m 8 ls []) := by
      intro n
      induction n with
      | zero =>
        intro y2l8 σl8 H locs ls hG hS hl hw
        exact (zwh_0 hw).elim
      | succ n ih8 =>
        intro y2l8 σl8 H locs ls hG hS hl hw
        obtain ⟨rr8, hf, hk8⟩ := zwh_u hw
        have hf : f_X12_all_L8 rc  q1.1 y2l8 σl8 = some rr8 := hf
        unfold f_X12_all_L8 at hf
        have KJ42_8 : ∀ (y3b42 : Int32)  (σb42_8 : zM) (H : Heap) (locs : List Loc) (ls : Array Slot), zG D aC A nl ad σb42_8 s H → va_S A s.heap H locs → lv_has ls 4 [(0, .ref (ad 12 0 0)), (1, .int q1.1), (3, .int y3b42)] → (f_X12_all_B42_8 σb42_8 rc  q1.1 y3b42) = some rr8 → zWk p l e ({ frames := (d + 1) + 3, cells := 0, slots := 0, locals := 23 * (d + 1) + 65 } : Room) s m args below meth c A (some (.int r)) (fun t => zG D aC A nl ad σ' t t.heap ∧ True) H locs (F0 m 42 ls []) := by
          intro y3b42  σb42_8 H locs ls hG hS hl hf
          unfold f_X12_all_B42_8 at hf
          refine lv_iload_n hx hb dX12_all_42 rfl (lv_at hl 2 rfl) ?_
          refine lv_istore_n (lv' := [(2, .int y3b42), (0, .ref (ad 12 0 0)), (1, .int q1.1), (3, .int y3b42)]) hx hb dX12_all_43 rfl hl (by decide) rfl (fun ls hl => ?_)
          refine lv_aload_n hx hb dX12_all_44 rfl (lv_at hl 1 rfl) ?_
          refine lv_ldc2 (v := 6385252) hx hb hown (hts _ zw_578) dX12_all_45 ?_
          obtain ⟨q20, eq20, hf⟩ := zbi hf
          refine z_callV (n := 1) (rest := []) (st1 := [.int q20.1]) (c0 := 12) (i0 := 0) (hZ.2.1 (12, 0) (by decide)) (by rfl) S hG hS hZ (fun _ _ h => h) (c_X12_takes l D aC zs A nl ad σb42_8 6385252 q20.1 q20.2 eq20) zw_546 zw_547 zw_548 zw_5 zw_549 (by decide +kernel) ⟨rfl, rfl⟩ ⟨(by dsimp only; omega), (by dsimp only; omega)⟩ hl.1 rfl (by rfl) (by rfl) (Nat.le_of_ble_eq_true rfl) dX12_all_48 ⟨Nat.zero_le _, Nat.zero_le _⟩ (fun H locs hz21 hG hS => ?_)
          refine lv_if_ne (tgt := 8) hx hb dX12_all_51 (by decide) (fun c22 => ?_) (fun c22 => ?_)
          · have hf := zif_n c22 hf
            cases hf
            exact ih8 y3b42 q20.2 H locs ls hG hS (lv_sub hl [1, 2, 0] rfl) hk8
          · have hf := zif_p c22 hf
            cases hf
            have hk8 : ((.inr q20.2) : (zM ⊕ zM)) = t8 := hk8
            have hf := hfo8
            rw [← hk8] at hf
            have hf : (some (q1.1, q20.2)) = some (r, σ') := hf
            refine lv_iload_n hx hb dX12_all_54 rfl (lv_at hl 2 rfl) ?_
            obtain ⟨hq1, hq2⟩ := Prod.mk.inj (Option.some.inj hf)
            subst hq1
            subst hq2
            exact z_iret S hG hS hlocks trivial hr dX12_all_55
        refine lv_aload_n hx hb dX12_all_8 rfl (lv_at hl 0 rfl) ?_
        obtain ⟨q14, eq14, hf⟩ := zbi hf
        refine z_callV (n := 0) (rest := []) (st1 := [.int q14.1]) (c0 := 12) (i0 := 0) (hZ.2.1 (12, 0) (by decide)) (by rfl) S hG hS hZ (fun _ _ h => h) (hrc.2.2 σl8 q14.1 q14.2 eq14) zw_639 zw_640 zw_641 zw_5 zw_642 (by decide +kernel) ⟨rfl, rfl⟩ ⟨(by dsimp only; omega), (by dsimp only; omega)⟩ hl.1 rfl (by rfl) (by rfl) (Nat.le_of_ble_eq_true rfl) dX12_all_9 ⟨Nat.zero_le _, Nat.zero_le _⟩ (fun H locs hz15 hG hS => ?_)
        refine lv_istore_n (lv' := [(3, .int q14.1), (0, .ref (ad 12 0 0)), (1, .int q1.1), (2, .int y2l8)]) hx hb dX12_all_12 rfl hl (by decide) rfl (fun ls hl => ?_)
        refine lv_iload_n hx hb dX12_all_13 rfl (lv_at hl 0 rfl) ?_
        refine lv_iconst (v := (-1)) hx hb dX12_all_14 (by decide) ?_
        refine lv_icmp_ne (tgt := 20) hx hb dX12_all_15 (by decide) (fun c16 => ?_) (fun c16 => ?_)
        · have hf := zif_n c16 hf
          refine lv_iload_n hx hb dX12_all_20 rfl (lv_at hl 3 rfl) ?_
          refine lv_iconst (v := (-1)) hx hb dX12_all_21 (by decide) ?_
          refine lv_icmp_ne (tgt := 35) hx hb dX12_all_22 (by decide) (fun c17 => ?_) (fun c17 => ?_)
          · have hf := zif_n c17 hf
            refine lv_aload_n hx hb dX12_all_35 rfl (lv_at hl 1 rfl) ?_
            refine z_get (c0 := 12) (i0 := 0) (k0 := 33) (T := TX12) (v := .ref (ad 12 0 34)) S hG (hZ.2.1 (12, 0) (by decide)) rfl inlX12 (by decide) rfl zw_245 rfl dX12_all_36 ?_
            refine lv_iload_n hx hb dX12_all_39 rfl (lv_at hl 3 rfl) ?_
            refine lv_iload_n hx hb dX12_all_40 rfl (lv_at hl 0 rfl) ?_
            obtain ⟨i18, hi18, hf⟩ := zbi hf
            refine z_iast (c0 := 12) (i0 := 0) (k0 := 33) S hG hS (hZ.2.1 (12, 0) (by decide)) (by decide) rfl hi18 dX12_all_41 (fun H locs hG hS => ?_)
            obtain ⟨σ19, eσ19, hf⟩ := zlt_s hf
            rw [← eσ19] at hG
            exact KJ42_8 q14.1 σ19 H locs ls hG hS (lv_sub hl [1, 2, 0] rfl) hf
          · have hf := zif_p c17 hf
            refine lv_aload_n hx hb dX12_all_25 rfl (lv_at hl 1 rfl) ?_
            refine z_get (c0 := 12) (i0 := 0) (k0 := 32) (T := TX12) (v := .ref (ad 12 0 33)) S hG (hZ.2.1 (12, 0) (by decide)) rfl inlX12 (by decide) rfl zw_244 rfl dX12_all_26 ?_
            refine lv_iload_n hx hb dX12_all_29 rfl (lv_at hl 2 rfl) ?_
            refine lv_iload_n hx hb dX12_all_30 rfl (lv_at hl 0 rfl) ?_
            obtain ⟨i23, hi23, hf⟩ := zbi hf
            refine z_iast (c0 := 12) (i0 := 0) (k0 := 32) S hG hS (hZ.2.1 (12, 0) (by decide)) (by decide) rfl hi23 dX12_all_31 (fun H locs hG hS => ?_)
            obtain ⟨σ24, eσ24, hf⟩ := zlt_s hf
            rw [← eσ24] at hG
            refine lv_goto (tgt := 42) hx hb dX12_all_32 (by decide) ?_
            exact KJ42_8 q14.1 σ24 H locs ls hG hS (lv_sub hl [1, 2, 0] rfl) hf
        · have hf := zif_p c16 hf
          cases hf
          have hk8 : ((.inl q14.2) : (zM ⊕ zM)) = t8 := hk8
          have hf := hfo8
          rw [← hk8] at hf
          have hf : (some ((-1), q14.2)) = some (r, σ') := hf
          refine lv_iconst (v := (-1)) hx hb dX12_all_18 (by decide) ?_
          obtain ⟨hq1, hq2⟩ := Prod.mk.inj (Option.some.inj hf)
          subst hq1
          subst hq2
          exact z_iret S hG hS hlocks trivial hr dX12_all_19
    exact KL8 zFu (-1) q1.2 H locs ls hG hS (lv_sub hl [2, 1, 0] rfl) hw8
  exact hK0 _ _ ls hG hS hl hf
set_option maxRecDepth 100000 in
set_option maxHeartbeats 4000000 in
theorem c_X12_single_b (l : Launch) (D : va_G) (aC : Nat → ClassId) (zs : Nat × Nat) (A : Nat → Prop) (nl : zNL) (ad : Nat → Nat → Nat → Nat) (d : Nat) (rc : Nat → zM → Option (Int32 × zM)) (hrc : zHR_X12_any l D aC zs A nl ad d rc) (σ : zM)  (r : Int32) (σ' : zM) (hf : f_X12_single σ rc  = some (r, σ')) : Met l yX12_single (Cond.code yX12_single cX12_single 3 (some .int) :: wsL_law) ({ frames := (d + 1) + 3, cells := 0, slots := 0, locals := 23 * (d + 1) + 65 } : Room) (zP D aC zs zfM A nl ad σ [.ref (ad 12 0 0)]) (zQ (some (.int r)) (fun t => zG D aC A nl ad σ' t t.heap ∧ True) A) 0 0 A := by
  unfold zHR_X12_any at hrc
  refine Met.ofW (cc := cX12_single) (maxL := 3) (ret := (some .int)) (by decide) rfl ?_
  intro p e s m args below meth c s₁ B hml hv
  obtain ⟨rfl, hG, hZ⟩ := hv
  have hx := B.exec
  have hb := B.bytes
  have hr := B.returns
  have hts : ∀ w ∈ wsL_law, w.before ([.ref (ad 12 0 0)] : List Value).toArray s = true := fun w h => (atoms_spec B.pre) w (List.mem_cons_of_mem _ h)
  have hown : s.vm.findClass RX12 = some m.cls := findClass_of_methodNamed B.named
  have hlocks := B.notSynchronized
  have S : zS p m c cX12_single 3 s ([.ref (ad 12 0 0)] : List Value).toArray RX12 := ⟨hx, hb, hml, hown, hts⟩
  have hS : va_S A s.heap s.heap [] := va_S.rf
  have hl := lv_entry ([.ref (ad 12 0 0)]) (n := 3) (Nat.le_of_ble_eq_true rfl)
  rw [lg_entry_eq]
  generalize (lg_sl ([.ref (ad 12 0 0)]) ++ List.replicate (3 - (lg_sl ([.ref (ad 12 0 0)])).length) Slot.unset).toArray = ls at hl ⊢
  have hl : lv_has ls 3 [(0, .ref (ad 12 0 0))] := hl
  generalize hargs : ([.ref (ad 12 0 0)] : List Value).toArray = args at S hts ⊢
  clear hargs
  have KJ257 : ∀ (y1b257 : Int32) (t1b257 : Int32) (t2b257 : Int32)  (σb257 : zM) (H : Heap) (locs : List Loc) (ls : Array Slot), zG D aC A nl ad σb257 s H → va_S A s.heap H locs → lv_has ls 3 [(0, .ref (ad 12 0 0)), (1, .int y1b257)] → (f_X12_single_B257 σb257 rc  y1b257 t1b257 t2b257) = some (r, σ') → zWk p l e ({ frames := (d + 1) + 3, cells := 0, slots := 0, locals := 23 * (d + 1) + 65 } : Room) s m args below meth c A (some (.int r)) (fun t => zG D aC A nl ad σ' t t.heap ∧ True) H locs (F0 m 257 ls [.int t2b257, .int t1b257, .ref (ad 12 0 36)]) := by
    intro y1b257 t1b257 t2b257  σb257 H locs ls hG hS hl hf
    unfold f_X12_single_B257 at hf
    obtain ⟨i25, hi25, hf⟩ := zbi hf
    refine z_iast (c0 := 12) (i0 := 0) (k0 := 35) S hG hS (hZ.2.1 (12, 0) (by decide)) (by decide) rfl hi25 dX12_single_257 (fun H locs hG hS => ?_)
    obtain ⟨σ26, eσ26, hf⟩ := zlt_s hf
    rw [← eσ26] at hG
    refine lv_aload_n hx hb dX12_single_258 rfl (lv_at hl 0 rfl) ?_
    refine z_get (c0 := 12) (i0 := 0) (k0 := 35) (T := TX12) (v := .ref (ad 12 0 36)) S hG (hZ.2.1 (12, 0) (by decide)) rfl inlX12 (by decide) rfl zw_247 rfl dX12_single_259 ?_
    refine lv_iload_n hx hb dX12_single_262 rfl (lv_at hl 1 rfl) ?_
    obtain ⟨i27, hi27, hf⟩ := zbi hf
    refine z_iald (c0 := 12) (i0 := 0) (k0 := 35) S hG (hZ.2.1 (12, 0) (by decide)) (by decide) rfl hi27 dX12_single_263 ?_
    refine lv_iconst (v := (-1)) hx hb dX12_single_264 (by decide) ?_
    refine lv_icmp_eq (tgt := 275) hx hb dX12_single_265 (by decide) (fun c28 => ?_) (fun c28 => ?_)
    · have hf := zif_p c28 hf
      refine lv_iconst (v := (-1)) hx hb dX12_single_275 (by decide) ?_
      obtain ⟨hq1, hq2⟩ := Prod.mk.inj (Option.some.inj hf)
      subst hq1
      subst hq2
      exact z_iret S hG hS hlocks trivial hr dX12_single_276
    · have hf := zif_n c28 hf
      refine lv_aload_n hx hb dX12_single_268 rfl (lv_at hl 0 rfl) ?_
      obtain ⟨q29, eq29, hf⟩ := zbi hf
      refine z_callV (n := 0) (rest := []) (st1 := [.int q29.1]) (c0 := 12) (i0 := 0) (hZ.2.1 (12, 0) (by decide)) (by rfl) S hG hS hZ (fun _ _ h => h) (c_X12_takesPlain l D aC zs A nl ad σ26 q29.1 q29.2 eq29) zw_594 zw_595 zw_596 zw_5 zw_597 (by decide +kernel) ⟨rfl, rfl⟩ ⟨(by dsimp only; omega), (by dsimp only; omega)⟩ hl.1 rfl (by rfl) (by rfl) (Nat.le_of_ble_eq_true rfl) dX12_single_269 ⟨Nat.zero_le _, Nat.zero_le _⟩ (fun H locs hz30 hG hS => ?_)
      refine lv_if_ne (tgt := 277) hx hb dX12_single_272 (by decide) (fun c31 => ?_) (fun c31 => ?_)
      · have hf := zif_n c31 hf
        refine lv_aload_n hx hb dX12_single_277 rfl (lv_at hl 0 rfl) ?_
        refine z_get (c0 := 12) (i0 := 0) (k0 := 36) (T := TX12) (v := .ref (ad 12 0 37)) S hG (hZ.2.1 (12, 0) (by decide)) rfl inlX12 (by decide) rfl zw_248 rfl dX12_single_278 ?_
        refine lv_iload_n hx hb dX12_single_281 rfl (lv_at hl 1 rfl) ?_
        refine lv_aload_n hx hb dX12_single_282 rfl (lv_at hl 0 rfl) ?_
        refine z_get (c0 := 12) (i0 := 0) (k0 := 41) (T := TX12) (v := .int (zI q29.2 12 0 41)) S hG (hZ.2.1 (12, 0) (by decide)) rfl inlX12 (by decide) rfl zw_559 rfl dX12_single_283 ?_
        obtain ⟨i32, hi32, hf⟩ := zbi hf
        refine z_iast (c0 := 12) (i0 := 0) (k0 := 36) S hG hS (hZ.2.1 (12, 0) (by decide)) (by decide) rfl hi32 dX12_single_286 (fun H locs hG hS => ?_)
        obtain ⟨σ33, eσ33, hf⟩ := zlt_s hf
        rw [← eσ33] at hG
        refine lv_iload_n hx hb dX12_single_287 rfl (lv_at hl 1 rfl) ?_
        obtain ⟨hq1, hq2⟩ := Prod.mk.inj (Option.some.inj hf)
        subst hq1
        subst hq2
        exact z_iret S hG hS hlocks trivial hr dX12_single_288
      · have hf := zif_p c31 hf
        refine lv_iconst (v := (-1)) hx hb dX12_single_275 (by decide) ?_
        obtain ⟨hq1, hq2⟩ := Prod.mk.inj (Option.some.inj hf)
        subst hq1
        subst hq2
        exact z_iret S hG hS hlocks trivial hr dX12_single_276
  have KJ170 : ∀ (σb170 : zM) (H : Heap) (locs : List Loc) (ls : Array Slot), zG D aC A nl ad σb170 s H → va_S A s.heap H locs → lv_has ls 3 [(0, .ref (ad 12 0 0))] → (f_X12_single_B170 σb170 rc ) = some (r, σ') → zWk p l e ({ frames := (d + 1) + 3, cells := 0, slots := 0, locals := 23 * (d + 1) + 65 } : Room) s m args below meth c A (some (.int r)) (fun t => zG D aC A nl ad σ' t t.heap ∧ True) H locs (F0 m 170 ls []) := by
    intro   σb170 H locs ls hG hS hl hf
    unfold f_X12_single_B170 at hf
    refine lv_aload_n hx hb dX12_single_170 rfl (lv_at hl 0 rfl) ?_
    refine lv_iconst (v := 3) hx hb dX12_single_171 (by decide) ?_
    obtain ⟨q5, eq5, hf⟩ := zbi hf
    refine z_callV (n := 1) (rest := []) (st1 := [.int q5.1]) (c0 := 12) (i0 := 0) (hZ.2.1 (12, 0) (by decide)) (by rfl) S hG hS hZ (fun _ _ h => h) (c_X12_node l D aC zs A nl ad σb170 3 q5.1 q5.2 eq5) zw_631 zw_632 zw_633 zw_5 zw_634 (by decide +kernel) ⟨rfl, rfl⟩ ⟨(by dsimp only; omega), (by dsimp only; omega)⟩ hl.1 rfl (by rfl) (by rfl) (Nat.le_of_ble_eq_true rfl) dX12_single_172 ⟨Nat.zero_le _, Nat.zero_le _⟩ (fun H locs hz6 hG hS => ?_)
    refine lv_istore_n (lv' := [(1, .int q5.1), (0, .ref (ad 12 0 0))]) hx hb dX12_single_175 rfl hl (by decide) rfl (fun ls hl => ?_)
    refine lv_aload_n hx hb dX12_single_176 rfl (lv_at hl 1 rfl) ?_
    refine z_get (c0 := 12) (i0 := 0) (k0 := 34) (T := TX12) (v := .ref (ad 12 0 35)) S hG (hZ.2.1 (12, 0) (by decide)) rfl inlX12 (by decide) rfl zw_246 rfl dX12_single_177 ?_
    refine lv_iload_n hx hb dX12_single_180 rfl (lv_at hl 0 rfl) ?_
    refine lv_aload_n hx hb dX12_single_181 rfl (lv_at hl 1 rfl) ?_
    obtain ⟨q7, eq7, hf⟩ := zbi hf
    refine z_callV (n := 0) (rest := [.int q5.1, .ref (ad 12 0 35)]) (st1 := [.long q7.1, .int q5.1, .ref (ad 12 0 35)]) (c0 := 12) (i0 := 0) (hZ.2.1 (12, 0) (by decide)) (by rfl) S hG hS hZ (fun _ _ h => h) (c_X12_word_ l D aC zs A nl ad q5.2 q7.1 q7.2 eq7) zw_551 zw_552 zw_553 zw_5 zw_554 (by decide +kernel) ⟨rfl, rfl⟩ ⟨(by dsimp only; omega), (by dsimp only; omega)⟩ hl.1 rfl (by rfl) (by rfl) (Nat.le_of_ble_eq_true rfl) dX12_single_182 ⟨Nat.zero_le _, Nat.zero_le _⟩ (fun H locs hz8 hG hS => ?_)
    refine z_callS (n := 1) (rest := [.int q5.1, .ref (ad 12 0 35)]) (st1 := [.int (f_X12_asked q7.1), .int q5.1, .ref (ad 12 0 35)]) S hG hS hZ (fun _ _ h => h) (c_X12_asked l D aC zs A nl ad q7.2 q7.1 (f_X12_asked q7.1) rfl) zw_580 zw_581 zw_5 zw_582 (by decide +kernel) ⟨rfl, rfl⟩ ⟨(by dsimp only; omega), (by dsimp only; omega)⟩ hl.1 rfl (by rfl) (by rfl) (Nat.le_of_ble_eq_true rfl) dX12_single_185 ⟨Nat.zero_le _, Nat.zero_le _⟩ (fun H locs hz9 hG hS => ?_)
    obtain ⟨i10, hi10, hf⟩ := zbi hf
    refine z_iast (c0 := 12) (i0 := 0) (k0 := 34) S hG hS (hZ.2.1 (12, 0) (by decide)) (by decide) rfl hi10 dX12_single_188 (fun H locs hG hS => ?_)
    obtain ⟨σ11, eσ11, hf⟩ := zlt_s hf
    rw [← eσ11] at hG
    refine lv_aload_n hx hb dX12_single_189 rfl (lv_at hl 1 rfl) ?_
    refine z_get (c0 := 12) (i0 := 0) (k0 := 34) (T := TX12) (v := .ref (ad 12 0 35)) S hG (hZ.2.1 (12, 0) (by decide)) rfl inlX12 (by decide) rfl zw_246 rfl dX12_single_190 ?_
    refine lv_iload_n hx hb dX12_single_193 rfl (lv_at hl 0 rfl) ?_
    obtain ⟨i12, hi12, hf⟩ := zbi hf
    refine z_iald (c0 := 12) (i0 := 0) (k0 := 34) S hG (hZ.2.1 (12, 0) (by decide)) (by decide) rfl hi12 dX12_single_194 ?_
    refine lv_iconst (v := (-1)) hx hb dX12_single_195 (by decide) ?_
    refine lv_icmp_ne (tgt := 201) hx hb dX12_single_196 (by decide) (fun c13 => ?_) (fun c13 => ?_)
    · have hf := zif_n c13 hf
      refine lv_aload_n hx hb dX12_single_201 rfl (lv_at hl 1 rfl) ?_
      refine lv_aload_n hx hb dX12_single_202 rfl (lv_at hl 1 rfl) ?_
      refine z_get (c0 := 12) (i0 := 0) (k0 := 40) (T := TX12) (v := .int (zI σ11 12 0 40)) S hG (hZ.2.1 (12, 0) (by decide)) rfl inlX12 (by decide) rfl zw_550 rfl dX12_single_203 ?_
      refine z_putI (c0 := 12) (i0 := 0) (k0 := 21) (T := TX12) S hG hS tyX12 tyX12_ok nmX12 (hZ.2.1 (12, 0) (by decide)) rfl inlX12 (by decide) rfl rfl zw_512 (by decide +kernel) rfl dX12_single_206 (fun H locs hG hS => ?_)
      obtain ⟨σ14, eσ14, hf⟩ := zlt_s hf
      rw [← eσ14] at hG
      refine lv_aload_n hx hb dX12_single_209 rfl (lv_at hl 1 rfl) ?_
      refine z_get (c0 := 12) (i0 := 0) (k0 := 35) (T := TX12) (v := .ref (ad 12 0 36)) S hG (hZ.2.1 (12, 0) (by decide)) rfl inlX12 (by decide) rfl zw_247 rfl dX12_single_210 ?_
      refine lv_iload_n hx hb dX12_single_213 rfl (lv_at hl 0 rfl) ?_
      refine lv_aload_n hx hb dX12_single_214 rfl (lv_at hl 1 rfl) ?_
      refine lv_bipush (v := 60) hx hb dX12_single_215 (by decide) ?_
      obtain ⟨q15, eq15, hf⟩ := zbi hf
      refine z_callV (n := 1) (rest := [.int q5.1, .ref (ad 12 0 36)]) (st1 := [.int q15.1, .int q5.1, .ref (ad 12 0 36)]) (c0 := 12) (i0 := 0) (hZ.2.1 (12, 0) (by decide)) (by rfl) S hG hS hZ (fun _ _ h => h) (c_X12_takesSign l D aC zs A nl ad σ14 60 q15.1 q15.2 eq15) zw_643 zw_644 zw_645 zw_5 zw_646 (by decide +kernel) ⟨rfl, rfl⟩ ⟨(by dsimp only; omega), (by dsimp only; omega)⟩ hl.1 rfl (by rfl) (by rfl) (Nat.le_of_ble_eq_true rfl) dX12_single_217 ⟨Nat.zero_le _, Nat.zero_le _⟩ (fun H locs hz16 hG hS => ?_)
      refine lv_if_eq (tgt := 228) hx hb dX12_single_220 (by decide) (fun c17 => ?_) (fun c17 => ?_)
      · have hf := zif_p c17 hf
        refine lv_aload_n hx hb dX12_single_228 rfl (lv_at hl 1 rfl) ?_
        refine lv_bipush (v := 62) hx hb dX12_single_229 (by decide) ?_
        obtain ⟨q18, eq18, hf⟩ := zbi hf
        refine z_callV (n := 1) (rest := [.int q5.1, .ref (ad 12 0 36)]) (st1 := [.int q18.1, .int q5.1, .ref (ad 12 0 36)]) (c0 := 12) (i0 := 0) (hZ.2.1 (12, 0) (by decide)) (by rfl) S hG hS hZ (fun _ _ h => h) (c_X12_takesSign l D aC zs A nl ad q15.2 62 q18.1 q18.2 eq18) zw_643 zw_644 zw_645 zw_5 zw_646 (by decide +kernel) ⟨rfl, rfl⟩ ⟨(by dsimp only; omega), (by dsimp only; omega)⟩ hl.1 rfl (by rfl) (by rfl) (Nat.le_of_ble_eq_true rfl) dX12_single_231 ⟨Nat.zero_le _, Nat.zero_le _⟩ (fun H locs hz19 hG hS => ?_)
        refine lv_if_eq (tgt := 242) hx hb dX12_single_234 (by decide) (fun c20 => ?_) (fun c20 => ?_)
        · have hf := zif_p c20 hf
          refine lv_aload_n hx hb dX12_single_242 rfl (lv_at hl 1 rfl) ?_
          refine lv_bipush (v := 61) hx hb dX12_single_243 (by decide) ?_
          obtain ⟨q21, eq21, hf⟩ := zbi hf
          refine z_callV (n := 1) (rest := [.int q5.1, .ref (ad 12 0 36)]) (st1 := [.int q21.1, .int q5.1, .ref (ad 12 0 36)]) (c0 := 12) (i0 := 0) (hZ.2.1 (12, 0) (by decide)) (by rfl) S hG hS hZ (fun _ _ h => h) (c_X12_takesSign l D aC zs A nl ad q18.2 61 q21.1 q21.2 eq21) zw_643 zw_644 zw_645 zw_5 zw_646 (by decide +kernel) ⟨rfl, rfl⟩ ⟨(by dsimp only; omega), (by dsimp only; omega)⟩ hl.1 rfl (by rfl) (by rfl) (Nat.le_of_ble_eq_true rfl) dX12_single_245 ⟨Nat.zero_le _, Nat.zero_le _⟩ (fun H locs hz22 hG hS => ?_)
          refine lv_if_eq (tgt := 256) hx hb dX12_single_248 (by decide) (fun c24 => ?_) (fun c24 => ?_)
          · rw [if_pos c24] at hf
            refine lv_iconst (v := (-1)) hx hb dX12_single_256 (by decide) ?_
            exact KJ257 q5.1 q5.1 (-1) q21.2 H locs ls hG hS (lv_sub hl [1, 0] rfl) hf
          · rw [if_neg c24] at hf
            refine lv_bipush (v := 61) hx hb dX12_single_251 (by decide) ?_
            refine lv_goto (tgt := 257) hx hb dX12_single_253 (by decide) ?_
            exact KJ257 q5.1 q5.1 61 q21.2 H locs ls hG hS (lv_sub hl [1, 0] rfl) hf
        · have hf := zif_n c20 hf
          refine lv_bipush (v := 62) hx hb dX12_single_237 (by decide) ?_
          refine lv_goto (tgt := 257) hx hb dX12_single_239 (by decide) ?_
          exact KJ257 q5.1 q5.1 62 q18.2 H locs ls hG hS (lv_sub hl [1, 0] rfl) hf
      · have hf := zif_n c17 hf
        refine lv_bipush (v := 60) hx hb dX12_single_223 (by decide) ?_
        refine lv_goto (tgt := 257) hx hb dX12_single_225 (by decide) ?_
        exact KJ257 q5.1 q5.1 60 q15.2 H locs ls hG hS (lv_sub hl [1, 0] rfl) hf
    · have hf := zif_p c13 hf
      refine lv_iconst (v := (-1)) hx hb dX12_single_199 (by decide) ?_
      obtain ⟨hq1, hq2⟩ := Prod.mk.inj (Option.some.inj hf)
      subst hq1
      subst hq2
      exact z_iret S hG hS hlocks trivial hr dX12_single_200
  have KJ164 : ∀ (σb164 : zM) (H : Heap) (locs : List Loc) (ls : Array Slot), zG D aC A nl ad σb164 s H → va_S A s.heap H locs → lv_has ls 3 [(0, .ref (ad 12 0 0))] → (f_X12_single_B164 σb164 rc ) = some (r, σ') → zWk p l e ({ frames := (d + 1) + 3, cells := 0, slots := 0, locals := 23 * (d + 1) + 65 } : Room) s m args below meth c A (some (.int r)) (fun t => zG D aC A nl ad σ' t t.heap ∧ True) H locs (F0 m 164 ls []) := by
    intro   σb164 H locs ls hG hS hl hf
    unfold f_X12_single_B164 at hf
    refine lv_iconst (v := (-1)) hx hb dX12_single_164 (by decide) ?_
    refine lv_goto (tgt := 169) hx hb dX12_single_165 (by decide) ?_
    obtain ⟨hq1, hq2⟩ := Prod.mk.inj (Option.some.inj hf)
    subst hq1
    subst hq2
    exact z_iret S hG hS hlocks trivial hr dX12_single_169
  have hK0 : ∀ (H : Heap) (locs : List Loc) (ls : Array Slot), zG D aC A nl ad σ s H → va_S A s.heap H locs → lv_has ls 3 [(0, .ref (ad 12 0 0))] → f_X12_single σ rc  = some (r, σ') → zWk p l e ({ frames := (d + 1) + 3, cells := 0, slots := 0, locals := 23 * (d + 1) + 65 } : Room) s m args below meth c A (some (.int r)) (fun t => zG D aC A nl ad σ' t t.heap ∧ True) H locs (F0 m 0 ls []) := by
    intro H locs ls hG hS hl hf
    unfold f_X12_single at hf
    refine lv_aload_n hx hb dX12_single_0 rfl (lv_at hl 0 rfl) ?_
    obtain ⟨q1, eq1, hf⟩ := zbi hf
    refine z_callV (n := 0) (rest := []) (st1 := [.long q1.1]) (c0 := 12) (i0 := 0) (hZ.2.1 (12, 0) (by decide)) (by rfl) S hG hS hZ (fun _ _ h => h) (c_X12_word_ l D aC zs A nl ad σ q1.1 q1.2 eq1) zw_551 zw_552 zw_553 zw_5 zw_554 (by decide +kernel) ⟨rfl, rfl⟩ ⟨(by dsimp only; omega), (by dsimp only; omega)⟩ hl.1 rfl (by rfl) (by rfl) (Nat.le_of_ble_eq_true rfl) dX12_single_1 ⟨Nat.zero_le _, Nat.zero_le _⟩ (fun H locs hz2 hG hS => ?_)
    refine lv_ldc2 (v := 7237492) hx hb hown (hts _ zw_579) dX12_single_4 ?_
    refine W.lcmp hx hb dX12_single_7 ?_
    refine lv_if_ne (tgt := 79) hx hb dX12_single_8 (by decide) (fun c3 => ?_) (fun c3 => ?_)
    · have hf := zif_n (fun h => c3 ((lg_cmp_eq q1.1 7237492).mpr h)) hf
      refine lv_aload_n hx hb dX12_single_79 rfl (lv_at hl 0 rfl) ?_
      refine z_get (c0 := 12) (i0 := 0) (k0 := 21) (T := TX12) (v := .int (zI q1.2 12 0 21)) S hG (hZ.2.1 (12, 0) (by decide)) rfl inlX12 (by decide) rfl zw_512 rfl dX12_single_80 ?_
      refine lv_aload_n hx hb dX12_single_83 rfl (lv_at hl 0 rfl) ?_
      refine z_get (c0 := 12) (i0 := 0) (k0 := 20) (T := TX12) (v := .int (zI q1.2 12 0 20)) S hG (hZ.2.1 (12, 0) (by decide)) rfl inlX12 (by decide) rfl zw_513 rfl dX12_single_84 ?_
      refine lv_icmp_ge (tgt := 170) hx hb dX12_single_87 (by decide) (fun c4 => ?_) (fun c4 => ?_)
      · have hf := zif_p c4 hf
        exact KJ170 q1.2 H locs ls hG hS (lv_sub hl [0] rfl) hf
      · have hf := zif_n c4 hf
        refine lv_aload_n hx hb dX12_single_90 rfl (lv_at hl 0 rfl) ?_
        refine z_get (c0 := 12) (i0 := 0) (k0 := 39) (T := TX12) (v := .ref (ad 12 0 40)) S hG (hZ.2.1 (12, 0) (by decide)) rfl inlX12 (by decide) rfl zw_252 rfl dX12_single_91 ?_
        refine lv_aload_n hx hb dX12_single_94 rfl (lv_at hl 0 rfl) ?_
        refine z_get (c0 := 12) (i0 := 0) (k0 := 21) (T := TX12) (v := .int (zI q1.2 12 0 21)) S hG (hZ.2.1 (12, 0) (by decide)) rfl inlX12 (by decide) rfl zw_512 rfl dX12_single_95 ?_
        obtain ⟨i34, hi34, hf⟩ := zbi hf
        refine z_bald (c0 := 12) (i0 := 0) (k0 := 39) S hG (hZ.2.1 (12, 0) (by decide)) (by decide) rfl hi34 dX12_single_98 ?_
        refine lv_bipush (v := 40) hx hb dX12_single_99 (by decide) ?_
        refine lv_icmp_ne (tgt := 170) hx hb dX12_single_101 (by decide) (fun c35 => ?_) (fun c35 => ?_)
        · have hf := zif_n c35 hf
          exact KJ170 q1.2 H locs ls hG hS (lv_sub hl [0] rfl) hf
        · have hf := zif_p c35 hf
          refine lv_aload_n hx hb dX12_single_104 rfl (lv_at hl 0 rfl) ?_
          refine z_get (c0 := 12) (i0 := 0) (k0 := 22) (T := TX12) (v := .int (zI q1.2 12 0 22)) S hG (hZ.2.1 (12, 0) (by decide)) rfl inlX12 (by decide) rfl zw_626 rfl dX12_single_105 ?_
          refine lv_bipush (v := 10) hx hb dX12_single_108 (by decide) ?_
          refine lv_icmp_ne (tgt := 115) hx hb dX12_single_110 (by decide) (fun c36 => ?_) (fun c36 => ?_)
          · have hf := zif_n c36 hf
            refine lv_aload_n hx hb dX12_single_115 rfl (lv_at hl 0 rfl) ?_
            refine lv_dup hx hb dX12_single_116 rfl ?_
            refine z_get (c0 := 12) (i0 := 0) (k0 := 22) (T := TX12) (v := .int (zI q1.2 12 0 22)) S hG (hZ.2.1 (12, 0) (by decide)) rfl inlX12 (by decide) rfl zw_626 rfl dX12_single_117 ?_
            refine lv_iconst (v := 1) hx hb dX12_single_120 (by decide) ?_
            refine lv_iadd hx hb dX12_single_121 ?_
            refine z_putI (c0 := 12) (i0 := 0) (k0 := 22) (T := TX12) S hG hS tyX12 tyX12_ok nmX12 (hZ.2.1 (12, 0) (by decide)) rfl inlX12 (by decide) rfl rfl zw_626 (by decide +kernel) rfl dX12_single_122 (fun H locs hG hS => ?_)
            obtain ⟨σ37, eσ37, hf⟩ := zlt_s hf
            rw [← eσ37] at hG
            refine lv_aload_n hx hb dX12_single_125 rfl (lv_at hl 0 rfl) ?_
            refine lv_dup hx hb dX12_single_126 rfl ?_
            refine z_get (c0 := 12) (i0 := 0) (k0 := 21) (T := TX12) (v := .int (zI σ37 12 0 21)) S hG (hZ.2.1 (12, 0) (by decide)) rfl inlX12 (by decide) rfl zw_512 rfl dX12_single_127 ?_
            refine lv_iconst (v := 1) hx hb dX12_single_130 (by decide) ?_
            refine lv_iadd hx hb dX12_single_131 ?_
            refine z_putI (c0 := 12) (i0 := 0) (k0 := 21) (T := TX12) S hG hS tyX12 tyX12_ok nmX12 (hZ.2.1 (12, 0) (by decide)) rfl inlX12 (by decide) rfl rfl zw_512 (by decide +kernel) rfl dX12_single_132 (fun H locs hG hS => ?_)
            obtain ⟨σ38, eσ38, hf⟩ := zlt_s hf
            rw [← eσ38] at hG
            refine lv_aload_n hx hb dX12_single_135 rfl (lv_at hl 0 rfl) ?_
            obtain ⟨q39, eq39, hf⟩ := zbi hf
            refine z_callV (n := 0) (rest := []) (st1 := [.int q39.1]) (c0 := 12) (i0 := 0) (hZ.2.1 (12, 0) (by decide)) (by rfl) S hG hS hZ (fun _ _ h => h) (hrc.1 σ38 q39.1 q39.2 eq39) zw_627 zw_628 zw_629 zw_5 zw_630 (by decide +kernel) ⟨rfl, rfl⟩ ⟨(by dsimp only; omega), (by dsimp only; omega)⟩ hl.1 rfl (by rfl) (by rfl) (Nat.le_of_ble_eq_true rfl) dX12_single_136 ⟨Nat.zero_le _, Nat.zero_le _⟩ (fun H locs hz40 hG hS => ?_)
            refine lv_istore_n (lv' := [(1, .int q39.1), (0, .ref (ad 12 0 0))]) hx hb dX12_single_139 rfl hl (by decide) rfl (fun ls hl => ?_)
            refine lv_aload_n hx hb dX12_single_140 rfl (lv_at hl 1 rfl) ?_
            refine lv_dup hx hb dX12_single_141 rfl ?_
            refine z_get (c0 := 12) (i0 := 0) (k0 := 22) (T := TX12) (v := .int (zI q39.2 12 0 22)) S hG (hZ.2.1 (12, 0) (by decide)) rfl inlX12 (by decide) rfl zw_626 rfl dX12_single_142 ?_
            refine lv_iconst (v := 1) hx hb dX12_single_145 (by decide) ?_
            refine lv_isub hx hb dX12_single_146 ?_
            refine z_putI (c0 := 12) (i0 := 0) (k0 := 22) (T := TX12) S hG hS tyX12 tyX12_ok nmX12 (hZ.2.1 (12, 0) (by decide)) rfl inlX12 (by decide) rfl rfl zw_626 (by decide +kernel) rfl dX12_single_147 (fun H locs hG hS => ?_)
            obtain ⟨σ41, eσ41, hf⟩ := zlt_s hf
            rw [← eσ41] at hG
            refine lv_iload_n hx hb dX12_single_150 rfl (lv_at hl 0 rfl) ?_
            refine lv_iconst (v := (-1)) hx hb dX12_single_151 (by decide) ?_
            refine lv_icmp_eq (tgt := 164) hx hb dX12_single_152 (by decide) (fun c42 => ?_) (fun c42 => ?_)
            · have hf := zif_p c42 hf
              exact KJ164 σ41 H locs ls hG hS (lv_sub hl [1] rfl) hf
            · have hf := zif_n c42 hf
              refine lv_aload_n hx hb dX12_single_155 rfl (lv_at hl 1 rfl) ?_
              refine lv_bipush (v := 41) hx hb dX12_single_156 (by decide) ?_
              obtain ⟨q43, eq43, hf⟩ := zbi hf
              refine z_callV (n := 1) (rest := []) (st1 := [.int q43.1]) (c0 := 12) (i0 := 0) (hZ.2.1 (12, 0) (by decide)) (by rfl) S hG hS hZ (fun _ _ h => h) (c_X12_takesSign l D aC zs A nl ad σ41 41 q43.1 q43.2 eq43) zw_643 zw_644 zw_645 zw_5 zw_646 (by decide +kernel) ⟨rfl, rfl⟩ ⟨(by dsimp only; omega), (by dsimp only; omega)⟩ hl.1 rfl (by rfl) (by rfl) (Nat.le_of_ble_eq_true rfl) dX12_single_158 ⟨Nat.zero_le _, Nat.zero_le _⟩ (fun H locs hz44 hG hS => ?_)
              refine lv_if_ne (tgt := 168) hx hb dX12_single_161 (by decide) (fun c45 => ?_) (fun c45 => ?_)
              · have hf := zif_n c45 hf
                refine lv_iload_n hx hb dX12_single_168 rfl (lv_at hl 0 rfl) ?_
                obtain ⟨hq1, hq2⟩ := Prod.mk.inj (Option.some.inj hf)
                subst hq1
                subst hq2
                exact z_iret S hG hS hlocks trivial hr dX12_single_169
              · have hf := zif_p c45 hf
                exact KJ164 q43.2 H locs ls hG hS (lv_sub hl [1] rfl) hf
          · have hf := zif_p c36 hf
            refine lv_iconst (v := (-1)) hx hb dX12_single_113 (by decide) ?_
            obtain ⟨hq1, hq2⟩ := Prod.mk.inj (Option.some.inj hf)
            subst hq1
            subst hq2
            exact z_iret S hG hS hlocks trivial hr dX12_single_114
    · have hf := zif_p ((lg_cmp_eq q1.1 7237492).mp  c3) hf
      refine lv_aload_n hx hb dX12_single_11 rfl (lv_at hl 0 rfl) ?_
      refine z_get (c0 := 12) (i0 := 0) (k0 := 22) (T := TX12) (v := .int (zI q1.2 12 0 22)) S hG (hZ.2.1 (12, 0) (by decide)) rfl inlX12 (by decide) rfl zw_626 rfl dX12_single_12 ?_
      refine lv_bipush (v := 10) hx hb dX12_single_15 (by decide) ?_
      refine lv_icmp_ne (tgt := 22) hx hb dX12_single_17 (by decide) (fun c46 => ?_) (fun c46 => ?_)
      · have hf := zif_n c46 hf
        refine lv_aload_n hx hb dX12_single_22 rfl (lv_at hl 0 rfl) ?_
        refine lv_dup hx hb dX12_single_23 rfl ?_
        refine z_get (c0 := 12) (i0 := 0) (k0 := 22) (T := TX12) (v := .int (zI q1.2 12 0 22)) S hG (hZ.2.1 (12, 0) (by decide)) rfl inlX12 (by decide) rfl zw_626 rfl dX12_single_24 ?_
        refine lv_iconst (v := 1) hx hb dX12_single_27 (by decide) ?_
        refine lv_iadd hx hb dX12_single_28 ?_
        refine z_putI (c0 := 12) (i0 := 0) (k0 := 22) (T := TX12) S hG hS tyX12 tyX12_ok nmX12 (hZ.2.1 (12, 0) (by decide)) rfl inlX12 (by decide) rfl rfl zw_626 (by decide +kernel) rfl dX12_single_29 (fun H locs hG hS => ?_)
        obtain ⟨σ47, eσ47, hf⟩ := zlt_s hf
        rw [← eσ47] at hG
        refine lv_aload_n hx hb dX12_single_32 rfl (lv_at hl 0 rfl) ?_
        refine lv_aload_n hx hb dX12_single_33 rfl (lv_at hl 0 rfl) ?_
        refine z_get (c0 := 12) (i0 := 0) (k0 := 40) (T := TX12) (v := .int (zI σ47 12 0 40)) S hG (hZ.2.1 (12, 0) (by decide)) rfl inlX12 (by decide) rfl zw_550 rfl dX12_single_34 ?_
        refine z_putI (c0 := 12) (i0 := 0) (k0 := 21) (T := TX12) S hG hS tyX12 tyX12_ok nmX12 (hZ.2.1 (12, 0) (by decide)) rfl inlX12 (by decide) rfl rfl zw_512 (by decide +kernel) rfl dX12_single_37 (fun H locs hG hS => ?_)
        obtain ⟨σ48, eσ48, hf⟩ := zlt_s hf
        rw [← eσ48] at hG
        refine lv_aload_n hx hb dX12_single_40 rfl (lv_at hl 0 rfl) ?_
        refine lv_iconst (v := 2) hx hb dX12_single_41 (by decide) ?_
        obtain ⟨q49, eq49, hf⟩ := zbi hf
        refine z_callV (n := 1) (rest := []) (st1 := [.int q49.1]) (c0 := 12) (i0 := 0) (hZ.2.1 (12, 0) (by decide)) (by rfl) S hG hS hZ (fun _ _ h => h) (c_X12_node l D aC zs A nl ad σ48 2 q49.1 q49.2 eq49) zw_631 zw_632 zw_633 zw_5 zw_634 (by decide +kernel) ⟨rfl, rfl⟩ ⟨(by dsimp only; omega), (by dsimp only; omega)⟩ hl.1 rfl (by rfl) (by rfl) (Nat.le_of_ble_eq_true rfl) dX12_single_42 ⟨Nat.zero_le _, Nat.zero_le _⟩ (fun H locs hz50 hG hS => ?_)
        refine lv_istore_n (lv' := [(1, .int q49.1), (0, .ref (ad 12 0 0))]) hx hb dX12_single_45 rfl hl (by decide) rfl (fun ls hl => ?_)
        refine lv_aload_n hx hb dX12_single_46 rfl (lv_at hl 1 rfl) ?_
        obtain ⟨q51, eq51, hf⟩ := zbi hf
        refine z_callV (n := 0) (rest := []) (st1 := [.int q51.1]) (c0 := 12) (i0 := 0) (hZ.2.1 (12, 0) (by decide)) (by rfl) S hG hS hZ (fun _ _ h => h) (hrc.2.2 q49.2 q51.1 q51.2 eq51) zw_639 zw_640 zw_641 zw_5 zw_642 (by decide +kernel) ⟨rfl, rfl⟩ ⟨(by dsimp only; omega), (by dsimp only; omega)⟩ hl.1 rfl (by rfl) (by rfl) (Nat.le_of_ble_eq_true rfl) dX12_single_47 ⟨Nat.zero_le _, Nat.zero_le _⟩ (fun H locs hz52 hG hS => ?_)
        refine lv_istore_n (lv' := [(2, .int q51.1), (1, .int q49.1), (0, .ref (ad 12 0 0))]) hx hb dX12_single_50 rfl hl (by decide) rfl (fun ls hl => ?_)
        refine lv_aload_n hx hb dX12_single_51 rfl (lv_at hl 2 rfl) ?_
        refine z_get (c0 := 12) (i0 := 0) (k0 := 32) (T := TX12) (v := .ref (ad 12 0 33)) S hG (hZ.2.1 (12, 0) (by decide)) rfl inlX12 (by decide) rfl zw_244 rfl dX12_single_52 ?_
        refine lv_iload_n hx hb dX12_single_55 rfl (lv_at hl 1 rfl) ?_
        refine lv_iload_n hx hb dX12_single_56 rfl (lv_at hl 0 rfl) ?_
        obtain ⟨i53, hi53, hf⟩ := zbi hf
        refine z_iast (c0 := 12) (i0 := 0) (k0 := 32) S hG hS (hZ.2.1 (12, 0) (by decide)) (by decide) rfl hi53 dX12_single_57 (fun H locs hG hS => ?_)
        obtain ⟨σ54, eσ54, hf⟩ := zlt_s hf
        rw [← eσ54] at hG
        refine lv_aload_n hx hb dX12_single_58 rfl (lv_at hl 2 rfl) ?_
        refine lv_dup hx hb dX12_single_59 rfl ?_
        refine z_get (c0 := 12) (i0 := 0) (k0 := 22) (T := TX12) (v := .int (zI σ54 12 0 22)) S hG (hZ.2.1 (12, 0) (by decide)) rfl inlX12 (by decide) rfl zw_626 rfl dX12_single_60 ?_
        refine lv_iconst (v := 1) hx hb dX12_single_63 (by decide) ?_
        refine lv_isub hx hb dX12_single_64 ?_
        refine z_putI (c0 := 12) (i0 := 0) (k0 := 22) (T := TX12) S hG hS tyX12 tyX12_ok nmX12 (hZ.2.1 (12, 0) (by decide)) rfl inlX12 (by decide) rfl rfl zw_626 (by decide +kernel) rfl dX12_single_65 (fun H locs hG hS => ?_)
        obtain ⟨σ55, eσ55, hf⟩ := zlt_s hf
        rw [← eσ55] at hG
        refine lv_iload_n hx hb dX12_single_68 rfl (lv_at hl 0 rfl) ?_
        refine lv_iconst (v := (-1)) hx hb dX12_single_69 (by decide) ?_
        refine lv_icmp_ne (tgt := 77) hx hb dX12_single_70 (by decide) (fun c56 => ?_) (fun c56 => ?_)
        · have hf := zif_n c56 hf
          refine lv_iload_n hx hb dX12_single_77 rfl (lv_at hl 1 rfl) ?_
          obtain ⟨hq1, hq2⟩ := Prod.mk.inj (Option.some.inj hf)
          subst hq1
          subst hq2
          exact z_iret S hG hS hlocks trivial hr dX12_single_78
        · have hf := zif_p c56 hf
          refine lv_iconst (v := (-1)) hx hb dX12_single_73 (by decide) ?_
          refine lv_goto (tgt := 78) hx hb dX12_single_74 (by decide) ?_
          obtain ⟨hq1, hq2⟩ := Prod.mk.inj (Option.some.inj hf)
          subst hq1
          subst hq2
          exact z_iret S hG hS hlocks trivial hr dX12_single_78
      · have hf := zif_p c46 hf
        refine lv_iconst (v := (-1)) hx hb dX12_single_20 (by decide) ?_
        obtain ⟨hq1, hq2⟩ := Prod.mk.inj (Option.some.inj hf)
        subst hq1
        subst hq2
        exact z_iret S hG hS hlocks trivial hr dX12_single_21
  exact hK0 _ _ ls hG hS hl hf
theorem c_X12_any_rec (l : Launch) (D : va_G) (aC : Nat → ClassId) (zs : Nat × Nat) (A : Nat → Prop) (nl : zNL) (ad : Nat → Nat → Nat → Nat) : ∀ d, zHR_X12_any l D aC zs A nl ad d (f_X12_any_rec d) := by
  intro d
  induction d with
  | zero =>
    unfold zHR_X12_any
    exact ⟨fun σ  r σ' h => (by cases h), fun σ  r σ' h => (by cases h), fun σ  r σ' h => (by cases h)⟩
  | succ d ih =>
    unfold zHR_X12_any
    exact ⟨fun σ  r σ' h => c_X12_any_b l D aC zs A nl ad d (f_X12_any_rec d) ih σ  r σ' h, fun σ  r σ' h => c_X12_all_b l D aC zs A nl ad d (f_X12_any_rec d) ih σ  r σ' h, fun σ  r σ' h => c_X12_single_b l D aC zs A nl ad d (f_X12_any_rec d) ih σ  r σ' h⟩
theorem c_X12_any (l : Launch) (D : va_G) (aC : Nat → ClassId) (zs : Nat × Nat) (A : Nat → Prop) (nl : zNL) (ad : Nat → Nat → Nat → Nat) (σ : zM)  (r : Int32) (σ' : zM) (hf : f_X12_any_rec 60 0 σ  = some (r, σ')) : Met l yX12_any (Cond.code yX12_any cX12_any 4 (some .int) :: wsL_law) ({ frames := 60 + 3, cells := 0, slots := 0, locals := 23 * 60 + 65 } : Room) (zP D aC zs zfM A nl ad σ [.ref (ad 12 0 0)]) (zQ (some (.int r)) (fun t => zG D aC A nl ad σ' t t.heap ∧ True) A) 0 0 A := (c_X12_any_rec l D aC zs A nl ad 60).1 σ  r σ' hf
theorem c_X12_all (l : Launch) (D : va_G) (aC : Nat → ClassId) (zs : Nat × Nat) (A : Nat → Prop) (nl : zNL) (ad : Nat → Nat → Nat → Nat) (σ : zM)  (r : Int32) (σ' : zM) (hf : f_X12_any_rec 60 1 σ  = some (r, σ')) : Met l yX12_all (Cond.code yX12_all cX12_all 4 (some .int) :: wsL_law) ({ frames := 60 + 3, cells := 0, slots := 0, locals := 23 * 60 + 65 } : Room) (zP D aC zs zfM A nl ad σ [.ref (ad 12 0 0)]) (zQ (some (.int r)) (fun t => zG D aC A nl ad σ' t t.heap ∧ True) A) 0 0 A := (c_X12_any_rec l D aC zs A nl ad 60).2.1 σ  r σ' hf
theorem c_X12_single (l : Launch) (D : va_G) (aC : Nat → ClassId) (zs : Nat × Nat) (A : Nat → Prop) (nl : zNL) (ad : Nat → Nat → Nat → Nat) (σ : zM)  (r : Int32) (σ' : zM) (hf : f_X12_any_rec 60 2 σ  = some (r, σ')) : Met l yX12_single (Cond.code yX12_single cX12_single 3 (some .int) :: wsL_law) ({ frames := 60 + 3, cells := 0, slots := 0, locals := 23 * 60 + 65 } : Room) (zP D aC zs zfM A nl ad σ [.ref (ad 12 0 0)]) (zQ (some (.int r)) (fun t => zG D aC A nl ad σ' t t.heap ∧ True) A) 0 0 A := (c_X12_any_rec l D aC zs A nl ad 60).2.2 σ  r σ' hf
def zHR_X12_holds (l : Launch) (D : va_G) (aC : Nat → ClassId) (zs : Nat × Nat) (A : Nat → Prop) (nl : zNL) (ad : Nat → Nat → Nat → Nat) (d : Nat) (rc : Nat → zM → Int32 → Int32 → Int32 → Option Int32) : Prop := (∀ (σ : zM) (x1 : Int32) (x2 : Int32) (x3 : Int32) (r : Int32) , rc 0 σ x1 x2 x3 = some r → Met l yX12_holds (Cond.code yX12_holds cX12_holds 5 (some .boolean) :: wsL_law) ({ frames := d + 5, cells := 0, slots := 0, locals := 24 * d + 123 } : Room) (zP D aC zs zfM A nl ad σ [.ref (ad 12 0 0), .int x1, .int x2, .int x3]) (zQ (some (.int r)) (fun t => zG D aC A nl ad σ t t.heap ∧ (r = 0 ∨ r = 1)) A) 0 0 A)
set_option maxRecDepth 100000 in
set_option maxHeartbeats 4000000 in
theorem c_X12_holds_b (l : Launch) (D : va_G) (aC : Nat → ClassId) (zs : Nat × Nat) (A : Nat → Prop) (nl : zNL) (ad : Nat → Nat → Nat → Nat) (d : Nat) (rc : Nat → zM → Int32 → Int32 → Int32 → Option Int32) (hrc : zHR_X12_holds l D aC zs A nl ad d rc) (σ : zM) (x1 : Int32) (x2 : Int32) (x3 : Int32) (r : Int32) (hf : f_X12_holds σ rc x1 x2 x3 = some r) : Met l yX12_holds (Cond.code yX12_holds cX12_holds 5 (some .boolean) :: wsL_law) ({ frames := (d + 1) + 5, cells := 0, slots := 0, locals := 24 * (d + 1) + 123 } : Room) (zP D aC zs zfM A nl ad σ [.ref (ad 12 0 0), .int x1, .int x2, .int x3]) (zQ (some (.int r)) (fun t => zG D aC A nl ad σ t t.heap ∧ (r = 0 ∨ r = 1)) A) 0 0 A := by
  unfold zHR_X12_holds at hrc
  refine Met.ofW (cc := cX12_holds) (maxL := 5) (ret := (some .boolean)) (by decide) rfl ?_
  intro p e s m args below meth c s₁ B hml hv
  obtain ⟨rfl, hG, hZ⟩ := hv
  have hx := B.exec
  have hb := B.bytes
  have hr := B.returns
  have hts : ∀ w ∈ wsL_law, w.before ([.ref (ad 12 0 0), .int x1, .int x2, .int x3] : List Value).toArray s = true := fun w h => (atoms_spec B.pre) w (List.mem_cons_of_mem _ h)
  have hown : s.vm.findClass RX12 = some m.cls := findClass_of_methodNamed B.named
  have hlocks := B.notSynchronized
  have S : zS p m c cX12_holds 5 s ([.ref (ad 12 0 0), .int x1, .int x2, .int x3] : List Value).toArray RX12 := ⟨hx, hb, hml, hown, hts⟩
  have hS : va_S A s.heap s.heap [] := va_S.rf
  have hl := lv_entry ([.ref (ad 12 0 0), .int x1, .int x2, .int x3]) (n := 5) (Nat.le_of_ble_eq_true rfl)
  rw [lg_entry_eq]
  generalize (lg_sl ([.ref (ad 12 0 0), .int x1, .int x2, .int x3]) ++ List.replicate (5 - (lg_sl ([.ref (ad 12 0 0), .int x1, .int x2, .int x3])).length) Slot.unset).toArray = ls at hl ⊢
  have hl : lv_has ls 5 [(0, .ref (ad 12 0 0)), (1, .int x1), (2, .int x2), (3, .int x3)] := hl
  generalize hargs : ([.ref (ad 12 0 0), .int x1, .int x2, .int x3] : List Value).toArray = args at S hts ⊢
  clear hargs
  have hK0 : ∀ (H : Heap) (locs : List Loc) (ls : Array Slot), zG D aC A nl ad σ s H → va_S A s.heap H locs → lv_has ls 5 [(0, .ref (ad 12 0 0)), (1, .int x1), (2, .int x2), (3, .int x3)] → f_X12_holds σ rc x1 x2 x3 = some r → zWk p l e ({ frames := (d + 1) + 5, cells := 0, slots := 0, locals := 24 * (d + 1) + 123 } : Room) s m args below meth c A (some (.int r)) (fun t => zG D aC A nl ad σ t t.heap ∧ (r = 0 ∨ r = 1)) H locs (F0 m 0 ls []) := by
    intro H locs ls hG hS hl hf
    unfold f_X12_holds at hf
    refine lv_aload_n hx hb dX12_holds_0 rfl (lv_at hl 0 rfl) ?_
    refine z_get (c0 := 12) (i0 := 0) (k0 := 31) (T := TX12) (v := .ref (ad 12 0 32)) S hG (hZ.2.1 (12, 0) (by decide)) rfl inlX12 (by decide) rfl zw_243 rfl dX12_holds_1 ?_
    refine lv_iload_n hx hb dX12_holds_4 rfl (lv_at hl 1 rfl) ?_
    obtain ⟨i1, hi1, hf⟩ := zbi hf
    refine z_iald (c0 := 12) (i0 := 0) (k0 := 31) S hG (hZ.2.1 (12, 0) (by decide)) (by decide) rfl hi1 dX12_holds_5 ?_
    by_cases c15 : (zA σ 12 0 31 i1) = 0
    · have hf := zif_p c15 hf
      refine lv_tableIn (x := (zA σ 12 0 31 i1)) (off := 26) (tgt := 32) hx hb dX12_holds_6 (by rw [c15]; decide) (by rw [c15]; decide) (by rw [c15]; decide) (by decide) ?_
      refine lv_aload_n hx hb dX12_holds_32 rfl (lv_at hl 0 rfl) ?_
      refine z_get (c0 := 12) (i0 := 0) (k0 := 32) (T := TX12) (v := .ref (ad 12 0 33)) S hG (hZ.2.1 (12, 0) (by decide)) rfl inlX12 (by decide) rfl zw_244 rfl dX12_holds_33 ?_
      refine lv_iload_n hx hb dX12_holds_36 rfl (lv_at hl 1 rfl) ?_
      obtain ⟨i16, hi16, hf⟩ := zbi hf
      refine z_iald (c0 := 12) (i0 := 0) (k0 := 32) S hG (hZ.2.1 (12, 0) (by decide)) (by decide) rfl hi16 dX12_holds_37 ?_
      refine lv_istore (lv' := [(4, .int (zA σ 12 0 32 i16)), (0, .ref (ad 12 0 0)), (1, .int x1), (2, .int x2), (3, .int x3)]) hx hb dX12_holds_38 hl (by decide) rfl (fun ls hl => ?_)
      obtain ⟨t40, hw40, hfo40⟩ := zbi hf
      have KL40 : ∀ (n : Nat) (y4l40 : Int32) (H : Heap) (locs : List Loc) (ls : Array Slot), zG D aC A nl ad σ s H → va_S A s.heap H locs → lv_has ls 5 [(0, .ref (ad 12 0 0)), (1, .int x1), (2, .int x2), (3, .int x3), (4, .int y4l40)] → zwh (fun (q : Int32) => f_X12_holds_L40 σ rc x1 x2 x3 q) n y4l40 = some t40 → zWk p l e ({ frames := (d + 1) + 5, cells := 0, slots := 0, locals := 24 * (d + 1) + 123 } : Room) s m args below meth c A (some (.int r)) (fun t => zG D aC A nl ad σ t t.heap ∧ (r = 0 ∨ r = 1)) H locs (F0 m 40 ls []) := by
        intro n
        induction n with
        | zero =>
          intro y4l40 H locs ls hG hS hl hw
          exact (zwh_0 hw).elim
        | succ n ih40 =>
          intro y4l40 H locs ls hG hS hl hw
          obtain ⟨rr40, hf, hk40⟩ := zwh_u hw
          have hf : f_X12_holds_L40 σ rc x1 x2 x3 y4l40 = some rr40 := hf
          unfold f_X12_holds_L40 at hf
          refine lv_iload hx hb dX12_holds_40 (lv_at hl 4 rfl) ?_
          refine lv_iconst (v := (-1)) hx hb dX12_holds_42 (by decide) ?_
          refine lv_icmp_eq (tgt := 71) hx hb dX12_holds_43 (by decide) (fun c22 => ?_) (fun c22 => ?_)
          · have hf := zif_p c22 hf
            cases hf
            have hk40 : ((.inr ()) : (Unit ⊕ Unit)) = t40 := hk40
            have hf := hfo40
            rw [← hk40] at hf
            have hf : (some 0) = some r := hf
            refine lv_iconst (v := 0) hx hb dX12_holds_71 (by decide) ?_
            have hq := (Option.some.inj hf)
            subst hq
            exact z_zret S hG hS hlocks (Or.inl rfl) hr dX12_holds_72
          · have hf := zif_n c22 hf
            refine lv_aload_n hx hb dX12_holds_46 rfl (lv_at hl 0 rfl) ?_
            refine lv_iload hx hb dX12_holds_47 (lv_at hl 4 rfl) ?_
            refine lv_iload_n hx hb dX12_holds_49 rfl (lv_at hl 2 rfl) ?_
            refine lv_iload_n hx hb dX12_holds_50 rfl (lv_at hl 3 rfl) ?_
            obtain ⟨r23, er23, hf⟩ := zbi hf
            refine z_callV (n := 3) (rest := []) (st1 := [.int r23]) (c0 := 12) (i0 := 0) (hZ.2.1 (12, 0) (by decide)) (by rfl) S hG hS hZ (fun _ _ h => h) (hrc σ y4l40 x2 x3 r23 er23) zw_1052 zw_1053 zw_1054 zw_5 zw_1055 (by decide +kernel) ⟨rfl, rfl⟩ ⟨(by dsimp only; omega), (by dsimp only; omega)⟩ hl.1 rfl (by rfl) (by rfl) (Nat.le_of_ble_eq_true rfl) dX12_holds_51 ⟨Nat.zero_le _, Nat.zero_le _⟩ (fun H locs hz24 hG hS => ?_)
            refine lv_if_eq (tgt := 59) hx hb dX12_holds_54 (by decide) (fun c25 => ?_) (fun c25 => ?_)
            · have hf := zif_p c25 hf
              refine lv_aload_n hx hb dX12_holds_59 rfl (lv_at hl 0 rfl) ?_
              refine z_get (c0 := 12) (i0 := 0) (k0 := 33) (T := TX12) (v := .ref (ad 12 0 34)) S hG (hZ.2.1 (12, 0) (by decide)) rfl inlX12 (by decide) rfl zw_245 rfl dX12_holds_60 ?_
              refine lv_iload hx hb dX12_holds_63 (lv_at hl 4 rfl) ?_
              obtain ⟨i26, hi26, hf⟩ := zbi hf
              refine z_iald (c0 := 12) (i0 := 0) (k0 := 33) S hG (hZ.2.1 (12, 0) (by decide)) (by decide) rfl hi26 dX12_holds_65 ?_
              refine lv_istore (lv' := [(4, .int (zA σ 12 0 33 i26)), (0, .ref (ad 12 0 0)), (1, .int x1), (2, .int x2), (3, .int x3)]) hx hb dX12_holds_66 hl (by decide) rfl (fun ls hl => ?_)
              refine lv_goto (tgt := 40) hx hb dX12_holds_68 (by decide) ?_
              cases hf
              exact ih40 (zA σ 12 0 33 i26) H locs ls hG hS (lv_sub hl [1, 2, 3, 4, 0] rfl) hk40
            · have hf := zif_n c25 hf
              cases hf
              have hk40 : ((.inl ()) : (Unit ⊕ Unit)) = t40 := hk40
              have hf := hfo40
              rw [← hk40] at hf
              have hf : (some 1) = some r := hf
              refine lv_iconst (v := 1) hx hb dX12_holds_57 (by decide) ?_
              have hq := (Option.some.inj hf)
              subst hq
              exact z_zret S hG hS hlocks (Or.inr rfl) hr dX12_holds_58
      exact KL40 zFu (zA σ 12 0 32 i16) H locs ls hG hS (lv_sub hl [1, 2, 3, 4, 0] rfl) hw40
    · have hf := zif_n c15 hf
      by_cases c27 : (zA σ 12 0 31 i1) = 1
      · have hf := zif_p c27 hf
        refine lv_tableIn (x := (zA σ 12 0 31 i1)) (off := 67) (tgt := 73) hx hb dX12_holds_6 (by rw [c27]; decide) (by rw [c27]; decide) (by rw [c27]; decide) (by decide) ?_
        refine lv_aload_n hx hb dX12_holds_73 rfl (lv_at hl 0 rfl) ?_
        refine z_get (c0 := 12) (i0 := 0) (k0 := 32) (T := TX12) (v := .ref (ad 12 0 33)) S hG (hZ.2.1 (12, 0) (by decide)) rfl inlX12 (by decide) rfl zw_244 rfl dX12_holds_74 ?_
        refine lv_iload_n hx hb dX12_holds_77 rfl (lv_at hl 1 rfl) ?_
        obtain ⟨i28, hi28, hf⟩ := zbi hf
        refine z_iald (c0 := 12) (i0 := 0) (k0 := 32) S hG (hZ.2.1 (12, 0) (by decide)) (by decide) rfl hi28 dX12_holds_78 ?_
        refine lv_istore (lv' := [(4, .int (zA σ 12 0 32 i28)), (0, .ref (ad 12 0 0)), (1, .int x1), (2, .int x2), (3, .int x3)]) hx hb dX12_holds_79 hl (by decide) rfl (fun ls hl => ?_)
        obtain ⟨t81, hw81, hfo81⟩ := zbi hf
        have KL81 : ∀ (n : Nat) (y4l81 : Int32) (H : Heap) (locs : List Loc) (ls : Array Slot), zG D aC A nl ad σ s H → va_S A s.heap H locs → lv_has ls 5 [(0, .ref (ad 12 0 0)), (1, .int x1), (2, .int x2), (3, .int x3), (4, .int y4l81)] → zwh (fun (q : Int32) => f_X12_holds_L81 σ rc x1 x2 x3 q) n y4l81 = some t81 → zWk p l e ({ frames := (d + 1) + 5, cells := 0, slots := 0, locals := 24 * (d + 1) + 123 } : Room) s m args below meth c A (some (.int r)) (fun t => zG D aC A nl ad σ t t.heap ∧ (r = 0 ∨ r = 1)) H locs (F0 m 81 ls []) := by
          intro n
          induction n with
          | zero =>
            intro y4l81 H locs ls hG hS hl hw
            exact (zwh_0 hw).elim
          | succ n ih81 =>
            intro y4l81 H locs ls hG hS hl hw
            obtain ⟨rr81, hf, hk81⟩ := zwh_u hw
            have hf : f_X12_holds_L81 σ rc x1 x2 x3 y4l81 = some rr81 := hf
            unfold f_X12_holds_L81 at hf
            refine lv_iload hx hb dX12_holds_81 (lv_at hl 4 rfl) ?_
            refine lv_iconst (v := (-1)) hx hb dX12_holds_83 (by decide) ?_
            refine lv_icmp_eq (tgt := 112) hx hb dX12_holds_84 (by decide) (fun c34 => ?_) (fun c34 => ?_)
            · have hf := zif_p c34 hf
              cases hf
              have hk81 : ((.inr ()) : (Unit ⊕ Unit)) = t81 := hk81
              have hf := hfo81
              rw [← hk81] at hf
              have hf : (some 1) = some r := hf
              refine lv_iconst (v := 1) hx hb dX12_holds_112 (by decide) ?_
              have hq := (Option.some.inj hf)
              subst hq
              exact z_zret S hG hS hlocks (Or.inr rfl) hr dX12_holds_113
            · have hf := zif_n c34 hf
              refine lv_aload_n hx hb dX12_holds_87 rfl (lv_at hl 0 rfl) ?_
              refine lv_iload hx hb dX12_holds_88 (lv_at hl 4 rfl) ?_
              refine lv_iload_n hx hb dX12_holds_90 rfl (lv_at hl 2 rfl) ?_
              refine lv_iload_n hx hb dX12_holds_91 rfl (lv_at hl 3 rfl) ?_
              obtain ⟨r35, er35, hf⟩ := zbi hf
              refine z_callV (n := 3) (rest := []) (st1 := [.int r35]) (c0 := 12) (i0 := 0) (hZ.2.1 (12, 0) (by decide)) (by rfl) S hG hS hZ (fun _ _ h => h) (hrc σ y4l81 x2 x3 r35 er35) zw_1052 zw_1053 zw_1054 zw_5 zw_1055 (by decide +kernel) ⟨rfl, rfl⟩ ⟨(by dsimp only; omega), (by dsimp only; omega)⟩ hl.1 rfl (by rfl) (by rfl) (Nat.le_of_ble_eq_true rfl) dX12_holds_92 ⟨Nat.zero_le _, Nat.zero_le _⟩ (fun H locs hz36 hG hS => ?_)
              refine lv_if_ne (tgt := 100) hx hb dX12_holds_95 (by decide) (fun c37 => ?_) (fun c37 => ?_)
              · have hf := zif_n c37 hf
                refine lv_aload_n hx hb dX12_holds_100 rfl (lv_at hl 0 rfl) ?_
                refine z_get (c0 := 12) (i0 := 0) (k0 := 33) (T := TX12) (v := .ref (ad 12 0 34)) S hG (hZ.2.1 (12, 0) (by decide)) rfl inlX12 (by decide) rfl zw_245 rfl dX12_holds_101 ?_
                refine lv_iload hx hb dX12_holds_104 (lv_at hl 4 rfl) ?_
                obtain ⟨i38, hi38, hf⟩ := zbi hf
                refine z_iald (c0 := 12) (i0 := 0) (k0 := 33) S hG (hZ.2.1 (12, 0) (by decide)) (by decide) rfl hi38 dX12_holds_106 ?_
                refine lv_istore (lv' := [(4, .int (zA σ 12 0 33 i38)), (0, .ref (ad 12 0 0)), (1, .int x1), (2, .int x2), (3, .int x3)]) hx hb dX12_holds_107 hl (by decide) rfl (fun ls hl => ?_)
                refine lv_goto (tgt := 81) hx hb dX12_holds_109 (by decide) ?_
                cases hf
                exact ih81 (zA σ 12 0 33 i38) H locs ls hG hS (lv_sub hl [1, 2, 3, 4, 0] rfl) hk81
              · have hf := zif_p c37 hf
                cases hf
                have hk81 : ((.inl ()) : (Unit ⊕ Unit)) = t81 := hk81
                have hf := hfo81
                rw [← hk81] at hf
                have hf : (some 0) = some r := hf
                refine lv_iconst (v := 0) hx hb dX12_holds_98 (by decide) ?_
                have hq := (Option.some.inj hf)
                subst hq
                exact z_zret S hG hS hlocks (Or.inl rfl) hr dX12_holds_99
        exact KL81 zFu (zA σ 12 0 32 i28) H locs ls hG hS (lv_sub hl [1, 2, 3, 4, 0] rfl) hw81
      · have hf := zif_n c27 hf
        by_cases c39 : (zA σ 12 0 31 i1) = 2
        · have hf := zif_p c39 hf
          refine lv_tableIn (x := (zA σ 12 0 31 i1)) (off := 108) (tgt := 114) hx hb dX12_holds_6 (by rw [c39]; decide) (by rw [c39]; decide) (by rw [c39]; decide) (by decide) ?_
          refine lv_aload_n hx hb dX12_holds_114 rfl (lv_at hl 0 rfl) ?_
          refine lv_aload_n hx hb dX12_holds_115 rfl (lv_at hl 0 rfl) ?_
          refine z_get (c0 := 12) (i0 := 0) (k0 := 32) (T := TX12) (v := .ref (ad 12 0 33)) S hG (hZ.2.1 (12, 0) (by decide)) rfl inlX12 (by decide) rfl zw_244 rfl dX12_holds_116 ?_
          refine lv_iload_n hx hb dX12_holds_119 rfl (lv_at hl 1 rfl) ?_
          obtain ⟨i40, hi40, hf⟩ := zbi hf
          refine z_iald (c0 := 12) (i0 := 0) (k0 := 32) S hG (hZ.2.1 (12, 0) (by decide)) (by decide) rfl hi40 dX12_holds_120 ?_
          refine lv_iload_n hx hb dX12_holds_121 rfl (lv_at hl 2 rfl) ?_
          refine lv_iload_n hx hb dX12_holds_122 rfl (lv_at hl 3 rfl) ?_
          obtain ⟨r41, er41, hf⟩ := zbi hf
          refine z_callV (n := 3) (rest := []) (st1 := [.int r41]) (c0 := 12) (i0 := 0) (hZ.2.1 (12, 0) (by decide)) (by rfl) S hG hS hZ (fun _ _ h => h) (hrc σ (zA σ 12 0 32 i40) x2 x3 r41 er41) zw_1052 zw_1053 zw_1054 zw_5 zw_1055 (by decide +kernel) ⟨rfl, rfl⟩ ⟨(by dsimp only; omega), (by dsimp only; omega)⟩ hl.1 rfl (by rfl) (by rfl) (Nat.le_of_ble_eq_true rfl) dX12_holds_123 ⟨Nat.zero_le _, Nat.zero_le _⟩ (fun H locs hz42 hG hS => ?_)
          refine lv_if_ne (tgt := 133) hx hb dX12_holds_126 (by decide) (fun c43 => ?_) (fun c43 => ?_)
          · have hf := zif_n c43 hf
            refine lv_iconst (v := 0) hx hb dX12_holds_133 (by decide) ?_
            have hq := (Option.some.inj hf)
            subst hq
            exact z_zret S hG hS hlocks (Or.inl rfl) hr dX12_holds_134
          · have hf := zif_p c43 hf
            refine lv_iconst (v := 1) hx hb dX12_holds_129 (by decide) ?_
            refine lv_goto (tgt := 134) hx hb dX12_holds_130 (by decide) ?_
            have hq := (Option.some.inj hf)
            subst hq
            exact z_zret S hG hS hlocks (Or.inr rfl) hr dX12_holds_134
        · have hf := zif_n c39 hf
          have hout : (zA σ 12 0 31 i1).toInt < 0 ∨ 2 < (zA σ 12 0 31 i1).toInt := by
            rcases (show (zA σ 12 0 31 i1).toInt < 0 ∨ 2 < (zA σ 12 0 31 i1).toInt ∨ (zA σ 12 0 31 i1).toInt = 0 ∨ (zA σ 12 0 31 i1).toInt = 1 ∨ (zA σ 12 0 31 i1).toInt = 2 by omega) with h | h | h | h | h
            · exact Or.inl h
            · exact Or.inr h
            · exact absurd (Int32.toInt_inj.mp (h.trans (by decide : (0 : Int) = (0 : Int32).toInt))) c15
            · exact absurd (Int32.toInt_inj.mp (h.trans (by decide : (1 : Int) = (1 : Int32).toInt))) c27
            · exact absurd (Int32.toInt_inj.mp (h.trans (by decide : (2 : Int) = (2 : Int32).toInt))) c39
          refine lv_tableOut (x := (zA σ 12 0 31 i1)) (tgt := 135) hx hb dX12_holds_6 hout (by decide) ?_
          refine lv_aload_n hx hb dX12_holds_135 rfl (lv_at hl 0 rfl) ?_
          refine lv_iload_n hx hb dX12_holds_136 rfl (lv_at hl 2 rfl) ?_
          refine lv_iload_n hx hb dX12_holds_137 rfl (lv_at hl 3 rfl) ?_
          refine lv_aload_n hx hb dX12_holds_138 rfl (lv_at hl 0 rfl) ?_
          refine z_get (c0 := 12) (i0 := 0) (k0 := 34) (T := TX12) (v := .ref (ad 12 0 35)) S hG (hZ.2.1 (12, 0) (by decide)) rfl inlX12 (by decide) rfl zw_246 rfl dX12_holds_139 ?_
          refine lv_iload_n hx hb dX12_holds_142 rfl (lv_at hl 1 rfl) ?_
          obtain ⟨i2, hi2, hf⟩ := zbi hf
          refine z_iald (c0 := 12) (i0 := 0) (k0 := 34) S hG (hZ.2.1 (12, 0) (by decide)) (by decide) rfl hi2 dX12_holds_143 ?_
          obtain ⟨r3, er3, hf⟩ := zbi hf
          refine z_callV (n := 3) (rest := []) (st1 := [.int r3]) (c0 := 12) (i0 := 0) (hZ.2.1 (12, 0) (by decide)) (by rfl) S hG hS hZ (fun _ _ h => h) (c_X12_word l D aC zs A nl ad σ x2 x3 (zA σ 12 0 34 i2) r3 er3) zw_1056 zw_1057 zw_1058 zw_5 zw_1059 (by decide +kernel) ⟨rfl, rfl⟩ ⟨(by dsimp only; omega), (by dsimp only; omega)⟩ hl.1 rfl (by rfl) (by rfl) (Nat.le_of_ble_eq_true rfl) dX12_holds_144 ⟨Nat.zero_le _, Nat.zero_le _⟩ (fun H locs hz4 hG hS => ?_)
          refine lv_istore (lv' := [(4, .int r3), (0, .ref (ad 12 0 0)), (1, .int x1), (2, .int x2), (3, .int x3)]) hx hb dX12_holds_147 hl (by decide) rfl (fun ls hl => ?_)
          refine lv_aload_n hx hb dX12_holds_149 rfl (lv_at hl 1 rfl) ?_
          refine z_get (c0 := 12) (i0 := 0) (k0 := 35) (T := TX12) (v := .ref (ad 12 0 36)) S hG (hZ.2.1 (12, 0) (by decide)) rfl inlX12 (by decide) rfl zw_247 rfl dX12_holds_150 ?_
          refine lv_iload_n hx hb dX12_holds_153 rfl (lv_at hl 2 rfl) ?_
          obtain ⟨i5, hi5, hf⟩ := zbi hf
          refine z_iald (c0 := 12) (i0 := 0) (k0 := 35) S hG (hZ.2.1 (12, 0) (by decide)) (by decide) rfl hi5 dX12_holds_154 ?_
          refine lv_bipush (v := 60) hx hb dX12_holds_155 (by decide) ?_
          refine lv_icmp_ne (tgt := 179) hx hb dX12_holds_157 (by decide) (fun c6 => ?_) (fun c6 => ?_)
          · have hf := zif_n c6 hf
            refine lv_aload_n hx hb dX12_holds_179 rfl (lv_at hl 1 rfl) ?_
            refine z_get (c0 := 12) (i0 := 0) (k0 := 35) (T := TX12) (v := .ref (ad 12 0 36)) S hG (hZ.2.1 (12, 0) (by decide)) rfl inlX12 (by decide) rfl zw_247 rfl dX12_holds_180 ?_
            refine lv_iload_n hx hb dX12_holds_183 rfl (lv_at hl 2 rfl) ?_
            obtain ⟨i7, hi7, hf⟩ := zbi hf
            refine z_iald (c0 := 12) (i0 := 0) (k0 := 35) S hG (hZ.2.1 (12, 0) (by decide)) (by decide) rfl hi7 dX12_holds_184 ?_
            refine lv_bipush (v := 62) hx hb dX12_holds_185 (by decide) ?_
            refine lv_icmp_ne (tgt := 209) hx hb dX12_holds_187 (by decide) (fun c8 => ?_) (fun c8 => ?_)
            · have hf := zif_n c8 hf
              refine lv_iload hx hb dX12_holds_209 (lv_at hl 0 rfl) ?_
              refine lv_aload_n hx hb dX12_holds_211 rfl (lv_at hl 1 rfl) ?_
              refine z_get (c0 := 12) (i0 := 0) (k0 := 36) (T := TX12) (v := .ref (ad 12 0 37)) S hG (hZ.2.1 (12, 0) (by decide)) rfl inlX12 (by decide) rfl zw_248 rfl dX12_holds_212 ?_
              refine lv_iload_n hx hb dX12_holds_215 rfl (lv_at hl 2 rfl) ?_
              obtain ⟨i9, hi9, hf⟩ := zbi hf
              refine z_iald (c0 := 12) (i0 := 0) (k0 := 36) S hG (hZ.2.1 (12, 0) (by decide)) (by decide) rfl hi9 dX12_holds_216 ?_
              refine lv_icmp_ne (tgt := 224) hx hb dX12_holds_217 (by decide) (fun c10 => ?_) (fun c10 => ?_)
              · have hf := zif_n c10 hf
                refine lv_iconst (v := 0) hx hb dX12_holds_224 (by decide) ?_
                have hq := (Option.some.inj hf)
                subst hq
                exact z_zret S hG hS hlocks (Or.inl rfl) hr dX12_holds_225
              · have hf := zif_p c10 hf
                refine lv_iconst (v := 1) hx hb dX12_holds_220 (by decide) ?_
                refine lv_goto (tgt := 225) hx hb dX12_holds_221 (by decide) ?_
                have hq := (Option.some.inj hf)
                subst hq
                exact z_zret S hG hS hlocks (Or.inr rfl) hr dX12_holds_225
            · have hf := zif_p c8 hf
              refine lv_iload hx hb dX12_holds_190 (lv_at hl 0 rfl) ?_
              refine lv_aload_n hx hb dX12_holds_192 rfl (lv_at hl 1 rfl) ?_
              refine z_get (c0 := 12) (i0 := 0) (k0 := 36) (T := TX12) (v := .ref (ad 12 0 37)) S hG (hZ.2.1 (12, 0) (by decide)) rfl inlX12 (by decide) rfl zw_248 rfl dX12_holds_193 ?_
              refine lv_iload_n hx hb dX12_holds_196 rfl (lv_at hl 2 rfl) ?_
              obtain ⟨i11, hi11, hf⟩ := zbi hf
              refine z_iald (c0 := 12) (i0 := 0) (k0 := 36) S hG (hZ.2.1 (12, 0) (by decide)) (by decide) rfl hi11 dX12_holds_197 ?_
              refine lv_icmp_le (tgt := 205) hx hb dX12_holds_198 (by decide) (fun c12 => ?_) (fun c12 => ?_)
              · have hf := zif_p c12 hf
                refine lv_iconst (v := 0) hx hb dX12_holds_205 (by decide) ?_
                refine lv_goto (tgt := 225) hx hb dX12_holds_206 (by decide) ?_
                have hq := (Option.some.inj hf)
                subst hq
                exact z_zret S hG hS hlocks (Or.inl rfl) hr dX12_holds_225
              · have hf := zif_n c12 hf
                refine lv_iconst (v := 1) hx hb dX12_holds_201 (by decide) ?_
                refine lv_goto (tgt := 225) hx hb dX12_holds_202 (by decide) ?_
                have hq := (Option.some.inj hf)
                subst hq
                exact z_zret S hG hS hlocks (Or.inr rfl) hr dX12_holds_225
          · have hf := zif_p c6 hf
            refine lv_iload hx hb dX12_holds_160 (lv_at hl 0 rfl) ?_
            refine lv_aload_n hx hb dX12_holds_162 rfl (lv_at hl 1 rfl) ?_
            refine z_get (c0 := 12) (i0 := 0) (k0 := 36) (T := TX12) (v := .ref (ad 12 0 37)) S hG (hZ.2.1 (12, 0) (by decide)) rfl inlX12 (by decide) rfl zw_248 rfl dX12_holds_163 ?_
            refine lv_iload_n hx hb dX12_holds_166 rfl (lv_at hl 2 rfl) ?_
            obtain ⟨i13, hi13, hf⟩ := zbi hf
            refine z_iald (c0 := 12) (i0 := 0) (k0 := 36) S hG (hZ.2.1 (12, 0) (by decide)) (by decide) rfl hi13 dX12_holds_167 ?_
            refine lv_icmp_ge (tgt := 175) hx hb dX12_holds_168 (by decide) (fun c14 => ?_) (fun c14 => ?_)
            · have hf := zif_p c14 hf
              refine lv_iconst (v := 0) hx hb dX12_holds_175 (by decide) ?_
              refine lv_goto (tgt := 225) hx hb dX12_holds_176 (by decide) ?_
              have hq := (Option.some.inj hf)
              subst hq
              exact z_zret S hG hS hlocks (Or.inl rfl) hr dX12_holds_225
            · have hf := zif_n c14 hf
              refine lv_iconst (v := 1) hx hb dX12_holds_171 (by decide) ?_
              refine lv_goto (tgt := 225) hx hb dX12_holds_172 (by decide) ?_
              have hq := (Option.some.inj hf)
              subst hq
              exact z_zret S hG hS hlocks (Or.inr rfl) hr dX12_holds_225
  exact hK0 _ _ ls hG hS hl hf
theorem c_X12_holds_rec (l : Launch) (D : va_G) (aC : Nat → ClassId) (zs : Nat × Nat) (A : Nat → Prop) (nl : zNL) (ad : Nat → Nat → Nat → Nat) : ∀ d, zHR_X12_holds l D aC zs A nl ad d (f_X12_holds_rec d) := by
  intro d
  induction d with
  | zero =>
    unfold zHR_X12_holds
    exact fun σ x1 x2 x3 r  h => (by cases h)
  | succ d ih =>
    unfold zHR_X12_holds
    exact fun σ x1 x2 x3 r  h => c_X12_holds_b l D aC zs A nl ad d (f_X12_holds_rec d) ih σ x1 x2 x3 r  h
theorem c_X12_holds (l : Launch) (D : va_G) (aC : Nat → ClassId) (zs : Nat × Nat) (A : Nat → Prop) (nl : zNL) (ad : Nat → Nat → Nat → Nat) (σ : zM) (x1 : Int32) (x2 : Int32) (x3 : Int32) (r : Int32) (hf : f_X12_holds_rec 60 0 σ x1 x2 x3 = some r) : Met l yX12_holds (Cond.code yX12_holds cX12_holds 5 (some .boolean) :: wsL_law) ({ frames := 60 + 5, cells := 0, slots := 0, locals := 24 * 60 + 123 } : Room) (zP D aC zs zfM A nl ad σ [.ref (ad 12 0 0), .int x1, .int x2, .int x3]) (zQ (some (.int r)) (fun t => zG D aC A nl ad σ t t.heap ∧ (r = 0 ∨ r = 1)) A) 0 0 A := (c_X12_holds_rec l D aC zs A nl ad 60) σ x1 x2 x3 r  hf
