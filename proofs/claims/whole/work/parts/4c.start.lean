/-! THE CLAIM OUT OF ONE WALK OF THE LAW'S BODY. Your part is whole_start (and what it stands on); all else here is the same for every law, but numbers. -/
def R_law : String := "BuildingJuryLaw"
def lw_P (b : Addr) (xs : List Int32) (args : Array Value) (s : State) : Prop := args = #[.ref b] ∧ s.IntsAt b xs ∧ xs.length ≤ 4096 ∧ (Jvm.Cond.and given_1 narrow_1).before args s = true
def lw_Q (_ : Array Value) (s : State) (o : Outcome) (t : State) : Prop := o = .returned (some (.int 1)) ∧ Framed s o t [] 600000 7302249
def lw_Z (below : List Frame) (a : Array Value) (s : State) : State → Prop := fun t => ∃ o, t.status = .running ∧ Ended t below o ∧ lw_Q a s o t
/-- the law's own end, with 1 on the stack, nothing written that was there before, its room as the claim has it -/
theorem lw_ret {p : Program} {l : Launch} {e : Env} {s : State} {m : MethodId} {below : List Frame} {meth : Method} {c : Code} {b : Nat} (hx : p.tables.exec = Jvm.exec) (hb : c.code = code) (hr : meth.sig.returnType = ret) (hlocks : meth.locks = false) {pc : Nat} {H : Heap} {ls : Array Slot} (hdg : decode code pc = .ok (.ireturn, 1)) : W p l e room_1 s m #[Value.ref b] below meth c H [] 600000 7302249 (lw_Z below #[Value.ref b] s) (F0 m pc ls [.int 1]) := by
  intro T hT X
  obtain ⟨fs, hret, hrun, hended, hW, hframe⟩ := X.leave (v := some (.int 1)) (hlocks := hlocks) (fun h => by rw [hr] at h; cases h)
  have hmeth' : T.vm.method? m = some meth := X.method'
  refine ⟨T.setFrames fs, ?_, .returned (some (.int 1)), hrun, hended, rfl, ⟨_, rfl⟩, hW, hframe⟩
  jvm_step X.here [X.here.top, hx, hb, hdg, hmeth', hr, ret, narrow_b1]
  (try refine ⟨rfl, ?_⟩); (try refine ⟨rfl, ?_⟩)
  first | (intro acts; rw [hret _ acts rfl rfl rfl]) | rw [hret _ _ rfl rfl rfl]
  exact Steps.refl _
/-- what holds at the law's entry: the machine, the code, the tables' words (any of lw_tbl by 'hts w (by decide +kernel)'), the script of L ints xs at the cell b, what the Statement gives of the start (any of its parts by flat_of_before) -/
def lw_At (p : Program) (s : State) (m : MethodId) (meth : Method) (c : Code) (b L : Nat) (xs : Nat → Int32) : Prop :=
  p.tables.exec = Jvm.exec ∧ c.code = code ∧ meth.sig.returnType = ret ∧ c.maxLocals = 4 ∧ s.vm.findClass R_law = some m.cls ∧ (∀ w ∈ lw_tbl, w.before #[Value.ref b] s = true) ∧ va_X b L xs s s.heap ∧ b < s.heap.size ∧ meth.locks = false ∧ (Jvm.Cond.and given_1 narrow_1).before #[Value.ref b] s = true
def zord : List (Nat × Nat × Nat) := [(11, 0, 0), (9, 0, 0), (9, 0, 1), (5, 0, 0), (5, 0, 1), (1, 0, 0), (1, 0, 1), (0, 7, 0), (0, 7, 6), (0, 7, 7), (0, 7, 1), (0, 7, 2), (0, 7, 3), (0, 7, 4), (0, 7, 5), (4, 0, 0), (10, 0, 0), (10, 0, 1), (4, 0, 4), (4, 0, 5), (4, 0, 6), (4, 0, 7), (0, 8, 0), (0, 8, 6), (0, 8, 7), (0, 8, 1), (0, 8, 2), (0, 8, 3), (0, 8, 4), (0, 8, 5), (8, 0, 0), (8, 0, 1), (8, 0, 2), (8, 0, 3), (8, 0, 4), (3, 0, 0), (3, 0, 1), (3, 0, 2), (3, 0, 3), (3, 0, 4), (2, 0, 0), (2, 0, 1), (11, 0, 8), (6, 0, 0), (6, 0, 1), (6, 0, 2), (6, 0, 3), (6, 0, 4), (6, 0, 5), (6, 0, 6), (6, 1, 0), (6, 1, 1), (6, 1, 2), (6, 1, 3), (6, 1, 4), (6, 1, 5), (6, 1, 6), (12, 0, 0), (12, 0, 4), (12, 0, 5), (12, 0, 6), (12, 0, 7), (12, 0, 8), (12, 0, 9), (12, 0, 11), (12, 0, 12), (12, 0, 13), (12, 0, 14), (12, 0, 15), (12, 0, 26), (12, 0, 27), (12, 0, 28), (12, 0, 29), (12, 0, 30), (12, 0, 31), (12, 0, 32), (12, 0, 33), (12, 0, 34), (12, 0, 35), (12, 0, 36), (12, 0, 37), (12, 0, 38), (12, 0, 39), (12, 0, 40), (12, 0, 43), (12, 0, 46), (12, 0, 47), (12, 0, 48), (12, 0, 56), (12, 0, 57), (12, 0, 58), (12, 0, 59), (12, 0, 60), (12, 0, 61), (12, 0, 62), (12, 0, 63), (12, 0, 64)]
def zad0 (sz : Nat) : Nat → Nat → Nat → Nat := fun c i k => sz + zord.idxOf (c, i, k)
theorem zad0_at {sz j : Nat} {c i k : Nat} (h : zord.idxOf (c, i, k) = j) : zad0 sz c i k = sz + j := by unfold zad0; rw [h]
def z00 : zM := (fun _ _ _ => 0, fun _ _ _ => 0, fun _ _ _ => none, fun _ _ _ _ => 0, fun _ _ _ _ => 0, fun _ _ _ _ => none)
def zIni (Inv : Nat → zM → Prop) : Prop := ∃ σ1 σ2, f_X11_init (zclr z00 11 0) = some σ1 ∧ f_X12_init (zclr σ1 12 0) = some σ2 ∧ Inv 0 σ2 ∧ zSc σ2 = 0 ∧ zMd σ2 = 0
set_option maxRecDepth 100000 in
set_option maxHeartbeats 4000000 in
theorem zl_start {p : Program} {e : Env} {s : State} {m : MethodId} {below : List Frame} {meth : Method} {c : Code} (l : Launch) {b L : Nat} {xs : Nat → Int32} {Inv : Nat → zM → Prop} (hob : zObA Inv) (hbd : ∀ n σ, Inv n σ → zSc σ ≤ 10 ∧ zMd σ ≤ 7) (hmo : ∀ n σ, Inv n σ → Inv (n + 8) σ) (hini : zIni Inv) (hL : L ≤ 4096) (C0 : lw_At p s m meth c b L xs) : W p l e room_1 s m #[Value.ref b] below meth c s.heap [] 0 0 (lw_Z below #[Value.ref b] s) (entryFrame m ([Value.ref b] : List Value).toArray 4) := by
  obtain ⟨hx, hb, hr, hml, hown, hts, hX, hbl, hlocks, hgv⟩ := id C0
  have hs := flat_of_before _ hgv
  obtain ⟨A, hAe⟩ : ∃ A : Nat → Prop, A = fun q => s.heap.size ≤ q := ⟨_, rfl⟩
  have hA : ∀ q : Nat, s.heap.size ≤ q → A q := fun q h => by rw [hAe]; exact h
  have hAb : ∀ q : Nat, A q → s.heap.size ≤ q := fun q h => by rw [hAe] at h; exact h
  have hA0 : ∀ a : Nat, a < s.heap.size → ¬ A a := fun a h h2 => absurd h (Nat.not_lt.mpr (hAb a h2))
  obtain ⟨zs, hzS⟩ := z_ini_St hs hts hA0
  obtain ⟨D, aC, hK⟩ := z_ini_K hts hzS.2.2.2.2.2
  have S : zS p m c code 4 s #[Value.ref b] RL := ⟨hx, hb, hml, hown, fun w h => hts w (zt_all w h)⟩
  obtain ⟨σ1, σ2, hf1, hf2, hI, hs0, hm0⟩ := hini
  obtain ⟨ad, had⟩ : ∃ ad, ad = zad0 s.heap.size := ⟨_, rfl⟩
  have hG : zG D aC A ([], []) ad z00 s s.heap := ⟨fun k q h => (by simp [zws] at h), ⟨fun i j p q h => (by simp [zws] at h), fun k q h => (by simp [zws] at h)⟩, hK, ⟨fun c i k j h1 h2 => (by cases h2), fun c i k x j h1 h2 => (by cases h2), fun c i k x j h1 h2 => (by cases h2)⟩⟩
  have hS : va_S A s.heap s.heap [] := va_S.rf
  have hZ : zH zs [] A ([], []) s := ⟨hA, fun _ h => (by cases h), hzS⟩
  have hl := lv_entry ([.ref b]) (n := 4) (Nat.le_of_ble_eq_true rfl)
  rw [lg_entry_eq]
  generalize (lg_sl ([.ref b]) ++ List.replicate (4 - (lg_sl ([.ref b])).length) Slot.unset).toArray = ls at hl ⊢
  have hl : lv_has ls 4 [(0, .ref b)] := hl
  have hadd : ∀ {c i k j : Nat}, zord.idxOf (c, i, k) = j → ad c i k = s.heap.size + j := fun h => by rw [had]; exact zad0_at h
  clear had
  refine zc_new (c0 := 11) (i0 := 0) (C := RX11) (T := TX11) S hG hS hA tyX11 tyX11_ok rfl inlX11 zw_0 zw_1 zw_2 [0, 1, 2, 3, 4, 5, 6, 7, 8, 9] (by decide +kernel) (by decide +kernel) (by decide +kernel) (fun h => by cases h) (fun _ h => by cases h) (hadd (j := 0) (by decide +kernel)) (Nat.le_of_ble_eq_true rfl) (Nat.le_of_ble_eq_true rfl) dL_law_0 ?_
  clear hG hS
  intro H hsz hG hS
  refine lv_dup hx hb dL_law_3 rfl ?_
  refine z_callI (n := 0) (rest := [.ref (ad 11 0 0)]) (c0 := 11) (i0 := 0) (fx' := []) S hG hS hZ (fun _ h => by cases h) (c_X11_init l D aC zs A [(11, 0, 0)] [] ad (zclr z00 11 0) σ1 (by simp) (fun k hk h => hk (by cases List.mem_singleton.mp h; simp)) (by decide) (fun _ h => by cases h) hf1) ⟨(hadd (j := 1) (by decide +kernel)).trans (by rw [hsz]), (hadd (j := 2) (by decide +kernel)).trans (by rw [hsz]), (hadd (j := 3) (by decide +kernel)).trans (by rw [hsz]), (hadd (j := 4) (by decide +kernel)).trans (by rw [hsz]), (hadd (j := 5) (by decide +kernel)).trans (by rw [hsz]), (hadd (j := 6) (by decide +kernel)).trans (by rw [hsz]), (hadd (j := 7) (by decide +kernel)).trans (by rw [hsz]), (hadd (j := 8) (by decide +kernel)).trans (by rw [hsz]), (hadd (j := 9) (by decide +kernel)).trans (by rw [hsz]), (hadd (j := 10) (by decide +kernel)).trans (by rw [hsz]), (hadd (j := 11) (by decide +kernel)).trans (by rw [hsz]), (hadd (j := 12) (by decide +kernel)).trans (by rw [hsz]), (hadd (j := 13) (by decide +kernel)).trans (by rw [hsz]), (hadd (j := 14) (by decide +kernel)).trans (by rw [hsz]), (hadd (j := 15) (by decide +kernel)).trans (by rw [hsz]), (hadd (j := 16) (by decide +kernel)).trans (by rw [hsz]), (hadd (j := 17) (by decide +kernel)).trans (by rw [hsz]), (hadd (j := 18) (by decide +kernel)).trans (by rw [hsz]), (hadd (j := 19) (by decide +kernel)).trans (by rw [hsz]), (hadd (j := 20) (by decide +kernel)).trans (by rw [hsz]), (hadd (j := 21) (by decide +kernel)).trans (by rw [hsz]), (hadd (j := 22) (by decide +kernel)).trans (by rw [hsz]), (hadd (j := 23) (by decide +kernel)).trans (by rw [hsz]), (hadd (j := 24) (by decide +kernel)).trans (by rw [hsz]), (hadd (j := 25) (by decide +kernel)).trans (by rw [hsz]), (hadd (j := 26) (by decide +kernel)).trans (by rw [hsz]), (hadd (j := 27) (by decide +kernel)).trans (by rw [hsz]), (hadd (j := 28) (by decide +kernel)).trans (by rw [hsz]), (hadd (j := 29) (by decide +kernel)).trans (by rw [hsz]), (hadd (j := 30) (by decide +kernel)).trans (by rw [hsz]), (hadd (j := 31) (by decide +kernel)).trans (by rw [hsz]), (hadd (j := 32) (by decide +kernel)).trans (by rw [hsz]), (hadd (j := 33) (by decide +kernel)).trans (by rw [hsz]), (hadd (j := 34) (by decide +kernel)).trans (by rw [hsz]), (hadd (j := 35) (by decide +kernel)).trans (by rw [hsz]), (hadd (j := 36) (by decide +kernel)).trans (by rw [hsz]), (hadd (j := 37) (by decide +kernel)).trans (by rw [hsz]), (hadd (j := 38) (by decide +kernel)).trans (by rw [hsz]), (hadd (j := 39) (by decide +kernel)).trans (by rw [hsz]), (hadd (j := 40) (by decide +kernel)).trans (by rw [hsz]), (hadd (j := 41) (by decide +kernel)).trans (by rw [hsz]), (hadd (j := 42) (by decide +kernel)).trans (by rw [hsz]), (hadd (j := 43) (by decide +kernel)).trans (by rw [hsz]), (hadd (j := 44) (by decide +kernel)).trans (by rw [hsz]), (hadd (j := 45) (by decide +kernel)).trans (by rw [hsz]), (hadd (j := 46) (by decide +kernel)).trans (by rw [hsz]), (hadd (j := 47) (by decide +kernel)).trans (by rw [hsz]), (hadd (j := 48) (by decide +kernel)).trans (by rw [hsz]), (hadd (j := 49) (by decide +kernel)).trans (by rw [hsz]), (hadd (j := 50) (by decide +kernel)).trans (by rw [hsz]), (hadd (j := 51) (by decide +kernel)).trans (by rw [hsz]), (hadd (j := 52) (by decide +kernel)).trans (by rw [hsz]), (hadd (j := 53) (by decide +kernel)).trans (by rw [hsz]), (hadd (j := 54) (by decide +kernel)).trans (by rw [hsz]), (hadd (j := 55) (by decide +kernel)).trans (by rw [hsz]), (hadd (j := 56) (by decide +kernel)).trans (by rw [hsz]), trivial⟩ zw_7 zw_8 zw_2 zw_9 rfl (by decide +kernel) ⟨rfl, rfl⟩ ⟨(Nat.le_of_ble_eq_true rfl), (Nat.le_of_ble_eq_true rfl)⟩ hl.1 rfl (by rfl) (Nat.le_of_ble_eq_true rfl) dL_law_4 ⟨(Nat.le_of_ble_eq_true rfl), (Nat.le_of_ble_eq_true rfl)⟩ ?_
  clear hG hS hsz
  intro H locs _ hG hS
  refine lv_astore_n (lv' := [(1, .ref (ad 11 0 0)), (0, .ref b)]) hx hb dL_law_7 rfl hl (by decide) rfl (fun ls hl => ?_)
  refine W_size (fun hle => ?_)
  have hsz : H.size = s.heap.size + 57 := by
    have h3 := zG_lt hG (q := (6, 1, 6)) (List.mem_append_right _ (by simp))
    rw [show zad ad (6, 1, 6) = s.heap.size + 56 from hadd (by decide +kernel)] at h3
    have h4 : H.size ≤ s.heap.size + 57 := hle
    omega
  refine zc_new (c0 := 12) (i0 := 0) (C := RX12) (T := TX12) S hG hS hA tyX12 tyX12_ok rfl inlX12 zw_3 zw_4 zw_5 [3, 4, 5, 6, 7, 8, 10, 11, 12, 13, 14, 25, 26, 27, 28, 29, 30, 31, 32, 33, 34, 35, 36, 37, 38, 39, 42, 45, 46, 47, 55, 56, 57, 58, 59, 60, 61, 62, 63] (by decide +kernel) (by decide +kernel) (by decide +kernel) (by decide) (fun _ h => by cases h) ((hadd (j := 57) (by decide +kernel)).trans hsz.symm) (Nat.le_of_ble_eq_true rfl) (Nat.le_of_ble_eq_true rfl) dL_law_8 ?_
  clear hG hS hle
  intro H2 hsz2 hG hS
  have hsz : H2.size = s.heap.size + 58 := by rw [hsz2, hsz]
  clear hsz2
  refine lv_dup hx hb dL_law_11 rfl ?_
  refine z_callI (n := 0) (rest := [.ref (ad 12 0 0)]) (c0 := 12) (i0 := 0) (fx' := []) S hG hS hZ (fun _ h => by cases h) (c_X12_init l D aC zs A ([(11, 0, 0)] ++ [(9, 0, 0), (9, 0, 1), (5, 0, 0), (5, 0, 1), (1, 0, 0), (1, 0, 1), (0, 7, 0), (0, 7, 6), (0, 7, 7), (0, 7, 1), (0, 7, 2), (0, 7, 3), (0, 7, 4), (0, 7, 5), (4, 0, 0), (10, 0, 0), (10, 0, 1), (4, 0, 4), (4, 0, 5), (4, 0, 6), (4, 0, 7), (0, 8, 0), (0, 8, 6), (0, 8, 7), (0, 8, 1), (0, 8, 2), (0, 8, 3), (0, 8, 4), (0, 8, 5), (8, 0, 0), (8, 0, 1), (8, 0, 2), (8, 0, 3), (8, 0, 4), (3, 0, 0), (3, 0, 1), (3, 0, 2), (3, 0, 3), (3, 0, 4), (2, 0, 0), (2, 0, 1), (11, 0, 8), (6, 0, 0), (6, 0, 1), (6, 0, 2), (6, 0, 3), (6, 0, 4), (6, 0, 5), (6, 0, 6), (6, 1, 0), (6, 1, 1), (6, 1, 2), (6, 1, 3), (6, 1, 4), (6, 1, 5), (6, 1, 6)] ++ [(12, 0, 0)]) [] ad (zclr σ1 12 0) σ2 (List.mem_append_right _ (by simp)) (zfr_c (F := [(12, 0)]) (by decide +kernel : ∀ q ∈ [(11, 0, 0)] ++ [(9, 0, 0), (9, 0, 1), (5, 0, 0), (5, 0, 1), (1, 0, 0), (1, 0, 1), (0, 7, 0), (0, 7, 6), (0, 7, 7), (0, 7, 1), (0, 7, 2), (0, 7, 3), (0, 7, 4), (0, 7, 5), (4, 0, 0), (10, 0, 0), (10, 0, 1), (4, 0, 4), (4, 0, 5), (4, 0, 6), (4, 0, 7), (0, 8, 0), (0, 8, 6), (0, 8, 7), (0, 8, 1), (0, 8, 2), (0, 8, 3), (0, 8, 4), (0, 8, 5), (8, 0, 0), (8, 0, 1), (8, 0, 2), (8, 0, 3), (8, 0, 4), (3, 0, 0), (3, 0, 1), (3, 0, 2), (3, 0, 3), (3, 0, 4), (2, 0, 0), (2, 0, 1), (11, 0, 8), (6, 0, 0), (6, 0, 1), (6, 0, 2), (6, 0, 3), (6, 0, 4), (6, 0, 5), (6, 0, 6), (6, 1, 0), (6, 1, 1), (6, 1, 2), (6, 1, 3), (6, 1, 4), (6, 1, 5), (6, 1, 6)], (q.1, q.2.1) ∉ [(12, 0)]) (by decide)) (fun _ _ h => by cases h) (fun _ h => by cases h) hf2) ⟨(hadd (j := 58) (by decide +kernel)).trans (by rw [hsz]), (hadd (j := 59) (by decide +kernel)).trans (by rw [hsz]), (hadd (j := 60) (by decide +kernel)).trans (by rw [hsz]), (hadd (j := 61) (by decide +kernel)).trans (by rw [hsz]), (hadd (j := 62) (by decide +kernel)).trans (by rw [hsz]), (hadd (j := 63) (by decide +kernel)).trans (by rw [hsz]), (hadd (j := 64) (by decide +kernel)).trans (by rw [hsz]), (hadd (j := 65) (by decide +kernel)).trans (by rw [hsz]), (hadd (j := 66) (by decide +kernel)).trans (by rw [hsz]), (hadd (j := 67) (by decide +kernel)).trans (by rw [hsz]), (hadd (j := 68) (by decide +kernel)).trans (by rw [hsz]), (hadd (j := 69) (by decide +kernel)).trans (by rw [hsz]), (hadd (j := 70) (by decide +kernel)).trans (by rw [hsz]), (hadd (j := 71) (by decide +kernel)).trans (by rw [hsz]), (hadd (j := 72) (by decide +kernel)).trans (by rw [hsz]), (hadd (j := 73) (by decide +kernel)).trans (by rw [hsz]), (hadd (j := 74) (by decide +kernel)).trans (by rw [hsz]), (hadd (j := 75) (by decide +kernel)).trans (by rw [hsz]), (hadd (j := 76) (by decide +kernel)).trans (by rw [hsz]), (hadd (j := 77) (by decide +kernel)).trans (by rw [hsz]), (hadd (j := 78) (by decide +kernel)).trans (by rw [hsz]), (hadd (j := 79) (by decide +kernel)).trans (by rw [hsz]), (hadd (j := 80) (by decide +kernel)).trans (by rw [hsz]), (hadd (j := 81) (by decide +kernel)).trans (by rw [hsz]), (hadd (j := 82) (by decide +kernel)).trans (by rw [hsz]), (hadd (j := 83) (by decide +kernel)).trans (by rw [hsz]), (hadd (j := 84) (by decide +kernel)).trans (by rw [hsz]), (hadd (j := 85) (by decide +kernel)).trans (by rw [hsz]), (hadd (j := 86) (by decide +kernel)).trans (by rw [hsz]), (hadd (j := 87) (by decide +kernel)).trans (by rw [hsz]), (hadd (j := 88) (by decide +kernel)).trans (by rw [hsz]), (hadd (j := 89) (by decide +kernel)).trans (by rw [hsz]), (hadd (j := 90) (by decide +kernel)).trans (by rw [hsz]), (hadd (j := 91) (by decide +kernel)).trans (by rw [hsz]), (hadd (j := 92) (by decide +kernel)).trans (by rw [hsz]), (hadd (j := 93) (by decide +kernel)).trans (by rw [hsz]), (hadd (j := 94) (by decide +kernel)).trans (by rw [hsz]), (hadd (j := 95) (by decide +kernel)).trans (by rw [hsz]), (hadd (j := 96) (by decide +kernel)).trans (by rw [hsz]), trivial⟩ zw_220 zw_221 zw_5 zw_222 rfl (by decide +kernel) ⟨rfl, rfl⟩ ⟨(Nat.le_of_ble_eq_true rfl), (Nat.le_of_ble_eq_true rfl)⟩ hl.1 rfl (by rfl) (Nat.le_of_ble_eq_true rfl) dL_law_12 ⟨(Nat.le_of_ble_eq_true rfl), (Nat.le_of_ble_eq_true rfl)⟩ ?_
  clear hG hS hsz
  intro H locs _ hG hS
  refine lv_astore_n (lv' := [(2, .ref (ad 12 0 0)), (1, .ref (ad 11 0 0)), (0, .ref b)]) hx hb dL_law_15 rfl hl (by decide) rfl (fun ls hl => ?_)
  refine lv_iconst (v := 0) hx hb dL_law_16 (by decide) ?_
  refine lv_istore_n (lv' := [(3, .int 0), (2, .ref (ad 12 0 0)), (1, .ref (ad 11 0 0)), (0, .ref b)]) hx hb dL_law_17 rfl hl (by decide) rfl (fun ls hl => ?_)
  have hG : zG D aC A (zord, []) ad σ2 s H := hG
  refine zl_loop (a11 := ad 11 0 0) (a12 := ad 12 0 0) hob hbd hmo S hX hbl (fun h => absurd hbl (Nat.not_lt.mpr (hAb _ h))) hL hA hzS ?_ 4201 0 ad (zord, []) σ2 H _ _ _ ls 0 (by omega) (by omega) rfl ⟨rfl, rfl, hG, hS, hI, ?_, ?_, ?_, rfl, (by rw [hs0, hm0] <;> rfl), (by rw [hs0, hm0] <;> rfl)⟩ hl
  · intro H locs ls cells slots hc1 hc2 hS
    refine va_forget (fun q hq => hAb _ (hS.2.2 q hq)) ?_
    refine W.widen (k := 600000) (n := 7302249) hc1 hc2 ?_
    refine lv_iconst (v := 1) hx hb dL_law_1313 (by decide) ?_
    exact lw_ret hx hb hr hlocks dL_law_1314
  · intro q hq
    have hall : (zfX ++ zfM).all (fun q => zord.contains (q.1, q.2, 0) && (List.range (zN q.1)).all fun k => !(decide (4 ≤ zkd q.1 k)) || zord.contains (q.1, q.2, k + 1)) = true := by decide +kernel
    have h1 := List.all_eq_true.mp hall q hq
    rw [Bool.and_eq_true] at h1
    refine ⟨List.contains_iff_mem.mp h1.1, fun k h2 h3 => ?_, fun k h => by cases h⟩
    have h4 := List.all_eq_true.mp h1.2 k (List.mem_range.mpr h2)
    rw [decide_eq_true h3] at h4
    exact List.contains_iff_mem.mp (by simpa using h4)
  · intro o k _ h
    exact absurd rfl ((by decide +kernel : ∀ q ∈ zord, q.1 ≠ 7) _ h)
  · intro o k _ hne h
    have h1 := List.all_eq_true.mp (by decide +kernel : zord.all (fun q => q.1 != 0 || decide (7 ≤ q.2.1)) = true) _ h
    simp at h1
    omega
