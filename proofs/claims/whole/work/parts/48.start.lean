/-! the law's start: what the Statement gives of it, in this proof's words -/
theorem z_ini_T {s : State} {args : Array Value} (hs : ∀ c ∈ flatC (Jvm.Cond.and given_1 narrow_1), c.before args s = true) {A : Nat → Prop} (hA : ∀ a : Nat, a < s.heap.size → ¬ A a) {C nm : String} {N : Nat} {f : Nat → Int32} (hN : N < 2 ^ 31) (hl : (Cond.laysStatic C nm "[I").before args s = true) (hini : (Cond.initialized C).before args s = true) (h1 : Cond.arrayOf (.static C nm "[I") .int ∈ flatC (Jvm.Cond.and given_1 narrow_1)) (h2 : Cond.eq (.length (.static C nm "[I")) (.int (Int32.ofNat N)) ∈ flatC (Jvm.Cond.and given_1 narrow_1)) (h3 : ∀ j : Nat, j < N → Cond.eq (.elem (.static C nm "[I") (.int (Int32.ofNat j))) (.int (f j)) ∈ flatC (Jvm.Cond.and given_1 narrow_1)) : ∃ t : Nat, va_Z C nm "[I" (.ref t) A s s.heap ∧ va_T .int t N (fun j => .int (f j)) A s s.heap := by
  obtain ⟨t, ht, hT⟩ := va_Tof (f := fun j => .int (f j)) (A := A) hN (hs _ h1) (va_eqt (hs _ h2)) (fun j hj => va_eqt (hs _ (h3 j hj))) hA
  exact ⟨t, va_Zof hl hini ht hA, hT⟩
def zTm (i : Nat) : Term := if i = 0 then .string RX10 15 else if i = 1 then .string RX10 21 else .string RX10 23
theorem z_ini_S {s : State} {args : Array Value} (hs : ∀ c ∈ flatC (Jvm.Cond.and given_1 narrow_1), c.before args s = true) (hts : ∀ w ∈ lw_tbl, w.before args s = true) {A : Nat → Prop} (hA : ∀ a : Nat, a < s.heap.size → ¬ A a) : zSa A s s.heap := by
  have e1 : ∀ i, i < 3 → Cond.exactly (zTm i) "java/lang/String" ∈ flatC (Jvm.Cond.and given_1 narrow_1) := by decide +kernel
  have e2 : ∀ i, i < 3 → Cond.eq (.field (zTm i) "java/lang/String" "coder" "B") (.int 0) ∈ flatC (Jvm.Cond.and given_1 narrow_1) := by decide +kernel
  have e3 : ∀ i, i < 3 → Cond.arrayOf (.field (zTm i) "java/lang/String" "value" "[B") .byte ∈ flatC (Jvm.Cond.and given_1 narrow_1) := by decide +kernel
  have e4 : ∀ i, i < 3 → Cond.eq (.length (.field (zTm i) "java/lang/String" "value" "[B")) (.int (Int32.ofNat (([69, 74, 42] : List Nat).getD i 0))) ∈ flatC (Jvm.Cond.and given_1 narrow_1) := by decide +kernel
  have e5 : ∀ i, i < 3 → ∀ j, j < ([69, 74, 42] : List Nat).getD i 0 → Cond.eq (.elem (.field (zTm i) "java/lang/String" "value" "[B") (.int (Int32.ofNat j))) (.int ((zTb.getD i []).getD j 0)) ∈ flatC (Jvm.Cond.and given_1 narrow_1) := by
    intro i hi j hj
    match i, hi, hj with
    | 0, _, hj => exact ze_0 _ (List.mem_map.mpr ⟨j, List.mem_range.mpr hj, rfl⟩)
    | 1, _, hj => exact ze_1 _ (List.mem_map.mpr ⟨j, List.mem_range.mpr hj, rfl⟩)
    | 2, _, hj => exact ze_2 _ (List.mem_map.mpr ⟨j, List.mem_range.mpr hj, rfl⟩)
    | n + 3, hi, _ => omega
  have e6 : ∀ i, i < 3 → ∀ j, j < 3 → i ≠ j → Cond.not (Cond.eq (zTm i) (zTm j)) ∈ flatC (Jvm.Cond.and given_1 narrow_1) ∨ Cond.not (Cond.eq (zTm j) (zTm i)) ∈ flatC (Jvm.Cond.and given_1 narrow_1) := by decide +kernel
  obtain ⟨adK, adV, hE, hv⟩ := vk_Sof (N := 3) (tm := zTm) (len := [69, 74, 42]) (byt := zTb) (A := A) (by decide) (fun i hi => hs _ (e1 i hi)) (fun i hi => hs _ (e2 i hi)) (fun i hi => hs _ (e3 i hi)) (fun i hi => hs _ (e4 i hi)) (fun i hi j hj => hs _ (e5 i hi j hj)) (fun i j hi hj hne => (e6 i hi j hj hne).elim (fun h => Or.inl (hs _ h)) (fun h => Or.inr (hs _ h))) hA
  obtain ⟨sf, hsf, hr⟩ := Cond.isRef_spec (hs (.isRef (.static RJ3 "SIOOBE_FORMATTER" "Ljava/util/function/BiFunction;")) (by decide +kernel))
  refine ⟨adK, adV, sf, hE, ?_, ?_, ?_, ?_, ?_, ?_⟩
  · exact vk_R.of (A := args) (hts (.stringRef RX10 15 zT0) (by decide +kernel)) (hv 0 (by decide))
  · exact vk_R.of (A := args) (hts (.stringRef RX10 21 zT1) (by decide +kernel)) (hv 1 (by decide))
  · exact vk_R.of (A := args) (hts (.stringRef RX10 23 zT2) (by decide +kernel)) (hv 2 (by decide))
  · exact va_Zof (hts (.laysStatic RJ0 "COMPACT_STRINGS" "Z") (by decide +kernel)) (hts (.initialized RJ0) (by decide +kernel)) (va_eqi (hs (.eq (.static RJ0 "COMPACT_STRINGS" "Z") (.int 1)) (by decide +kernel))) hA
  · exact va_Zof (hts (.laysStatic RJ3 "SIOOBE_FORMATTER" "Ljava/util/function/BiFunction;") (by decide +kernel)) (hts (.initialized RJ3) (by decide +kernel)) hsf hA
  · cases sf <;> first | exact Or.inl rfl | exact Or.inr ⟨_, rfl⟩ | (simp [Value.isRef] at hr)
theorem z_ini_W {s : State} {args : Array Value} (hts : ∀ w ∈ lw_tbl, w.before args s = true) : zSw s :=
  ⟨va_AO.of (hts (.arrayOver (.object RX0)) (by decide +kernel)), va_AO.of (hts (.arrayOver (.object RX7)) (by decide +kernel)), va_Nw.of rfl (hts (.methodLinkNest RX11 9 yX9_init RX11) (by decide +kernel)), va_Nw.of rfl (hts (.methodLinkNest RX11 18 yX5_init RX11) (by decide +kernel)), va_Nw.of rfl (hts (.methodLinkNest RX11 25 yX1_init RX11) (by decide +kernel)), va_Nw.of rfl (hts (.methodLinkNest RX11 41 yX8_init RX11) (by decide +kernel)), va_Nw.of rfl (hts (.methodLinkNest RX11 48 yX3_init RX11) (by decide +kernel)), va_Nw.of rfl (hts (.methodLinkNest RX11 68 yX6_init RX11) (by decide +kernel))⟩
theorem z_ini_St {s : State} {args : Array Value} (hs : ∀ c ∈ flatC (Jvm.Cond.and given_1 narrow_1), c.before args s = true) (hts : ∀ w ∈ lw_tbl, w.before args s = true) {A : Nat → Prop} (hA : ∀ a : Nat, a < s.heap.size → ¬ A a) : ∃ zs, zSt zs A s s.heap := by
  obtain ⟨t1, h1, h2⟩ := z_ini_T (C := RX0) (nm := "ELSE") (N := 11) (f := zELSE) hs hA (by decide) (hts _ (by decide +kernel)) (hts _ (by decide +kernel)) (by decide +kernel) (by decide +kernel) (by decide +kernel)
  obtain ⟨t2, h3, h4⟩ := z_ini_T (C := RX7) (nm := "BESIDE") (N := 4) (f := zBES) hs hA (by decide) (hts _ (by decide +kernel)) (hts _ (by decide +kernel)) (by decide +kernel) (by decide +kernel) (by decide +kernel)
  exact ⟨(t1, t2), h1, h2, h3, h4, z_ini_S hs hts hA, z_ini_W hts⟩
theorem z_ini_a {s : State} {args : Array Value} {ty : FieldType} (hty : ∀ C, ty ≠ .object C) (h : (Cond.arrayClass ty).before args s = true) : ∃ cA, ArrOfT s cA ty ∧ va_RA s cA ty := by
  obtain ⟨c, k, comp, h1, h2, h3⟩ := Cond.arrayClass_spec h
  refine ⟨c, fun n z => ⟨fun k h => (by cases h), k, h2, comp, h3⟩, ?_⟩
  unfold va_RA
  cases ty <;> first | exact h1 | exact absurd rfl (hty _)
theorem z_ini_o {s : State} {C : String} (h : va_AO C s) : ∃ cA, ArrOfT s cA (.object C) ∧ va_RA s cA (.object C) := by
  obtain ⟨comp, c, k, h1, -, h2, h3, h4⟩ := Cond.arrayOver_spec h
  exact ⟨c, fun n z => ⟨fun k h => (by cases h), k, h2, comp, h3⟩, k, comp, h2, h3, h1, h4⟩
theorem z_ini_K {s : State} {args : Array Value} (hts : ∀ w ∈ lw_tbl, w.before args s = true) (hw : zSw s) : ∃ (D : va_G) (aC : Nat → ClassId), va_K D vwCl (ztys aC) s := by
  have hin := fun w h => hts w (zt_all w h)
  obtain ⟨c0, i0, hk0⟩ := u_known (C := RX0) (T := TX0) (N := 10) (n := 10) hin inlX0 (hts (.instantiable RX0 10) (by decide +kernel))
  obtain ⟨c1, i1, hk1⟩ := u_known (C := RX1) (T := TX1) (N := 4) (n := 4) hin inlX1 (hts (.instantiable RX1 4) (by decide +kernel))
  obtain ⟨c2, i2, hk2⟩ := u_known (C := RX2) (T := TX2) (N := 2) (n := 2) hin inlX2 (hts (.instantiable RX2 2) (by decide +kernel))
  obtain ⟨c3, i3, hk3⟩ := u_known (C := RX3) (T := TX3) (N := 6) (n := 6) hin inlX3 (hts (.instantiable RX3 6) (by decide +kernel))
  obtain ⟨c4, i4, hk4⟩ := u_known (C := RX4) (T := TX4) (N := 10) (n := 10) hin inlX4 (hts (.instantiable RX4 10) (by decide +kernel))
  obtain ⟨c5, i5, hk5⟩ := u_known (C := RX5) (T := TX5) (N := 3) (n := 3) hin inlX5 (hts (.instantiable RX5 3) (by decide +kernel))
  obtain ⟨c6, i6, hk6⟩ := u_known (C := RX6) (T := TX6) (N := 9) (n := 9) hin inlX6 (hts (.instantiable RX6 9) (by decide +kernel))
  obtain ⟨c7, i7, hk7⟩ := u_known (C := RX7) (T := TX7) (N := 6) (n := 6) hin inlX7 (hts (.instantiable RX7 6) (by decide +kernel))
  obtain ⟨c8, i8, hk8⟩ := u_known (C := RX8) (T := TX8) (N := 5) (n := 5) hin inlX8 (hts (.instantiable RX8 5) (by decide +kernel))
  obtain ⟨c9, i9, hk9⟩ := u_known (C := RX9) (T := TX9) (N := 2) (n := 2) hin inlX9 (hts (.instantiable RX9 2) (by decide +kernel))
  obtain ⟨c10, i10, hk10⟩ := u_known (C := RX10) (T := TX10) (N := 1) (n := 1) hin inlX10 (hts (.instantiable RX10 1) (by decide +kernel))
  obtain ⟨c11, i11, hk11⟩ := u_known (C := RX11) (T := TX11) (N := 19) (n := 19) hin inlX11 (hts (.instantiable RX11 19) (by decide +kernel))
  obtain ⟨c12, i12, hk12⟩ := u_known (C := RX12) (T := TX12) (N := 66) (n := 66) hin inlX12 (hts (.instantiable RX12 66) (by decide +kernel))
  obtain ⟨a4, g4⟩ := z_ini_a (s := s) (ty := .int) (fun C h => by cases h) (hts (.arrayClass .int) (by decide +kernel))
  obtain ⟨a5, g5⟩ := z_ini_a (s := s) (ty := .byte) (fun C h => by cases h) (hts (.arrayClass .byte) (by decide +kernel))
  obtain ⟨a6, g6⟩ := z_ini_a (s := s) (ty := .boolean) (fun C h => by cases h) (hts (.arrayClass .boolean) (by decide +kernel))
  obtain ⟨a7, g7⟩ := z_ini_a (s := s) (ty := .long) (fun C h => by cases h) (hts (.arrayClass .long) (by decide +kernel))
  obtain ⟨a8, g8⟩ := z_ini_o hw.2.1
  obtain ⟨a9, g9⟩ := z_ini_o hw.1
  refine ⟨(fun k => ([c0, c1, c2, c3, c4, c5, c6, c7, c8, c9, c10, c11, c12] : List ClassId).getD k c0, fun k => ([i0, i1, i2, i3, i4, i5, i6, i7, i8, i9, i10, i11, i12] : List (Nat → Nat)).getD k i0), fun n => ([a4, a4, a4, a4, a4, a5, a6, a7, a8, a9] : List ClassId).getD n a4, ?_, ?_⟩
  · intro k q hq
    match k, hq with
    | 0, hq => cases hq; exact hk0
    | 1, hq => cases hq; exact hk1
    | 2, hq => cases hq; exact hk2
    | 3, hq => cases hq; exact hk3
    | 4, hq => cases hq; exact hk4
    | 5, hq => cases hq; exact hk5
    | 6, hq => cases hq; exact hk6
    | 7, hq => cases hq; exact hk7
    | 8, hq => cases hq; exact hk8
    | 9, hq => cases hq; exact hk9
    | 10, hq => cases hq; exact hk10
    | 11, hq => cases hq; exact hk11
    | 12, hq => cases hq; exact hk12
    | k + 13, hq => simp at hq
  · intro k q hq
    match k, hq with
    | 0, hq => cases hq; exact g4
    | 1, hq => cases hq; exact g5
    | 2, hq => cases hq; exact g6
    | 3, hq => cases hq; exact g7
    | 4, hq => cases hq; exact g8
    | 5, hq => cases hq; exact g9
    | k + 6, hq => simp [ztys] at hq
