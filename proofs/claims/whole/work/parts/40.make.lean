/-! rows for what makes cells: the addresses are told ahead (ad says where the next cells will lie) -/
def zclr (σ : zM) (c i : Nat) : zM := (fun c' i' k' => if c' = c ∧ i' = i then 0 else σ.1 c' i' k', fun c' i' k' => if c' = c ∧ i' = i then 0 else σ.2.1 c' i' k', fun c' i' k' => if c' = c ∧ i' = i then none else σ.2.2.1 c' i' k', σ.2.2.2)
def zclA (σ : zM) (c i k : Nat) : zM := (σ.1, σ.2.1, σ.2.2.1, zu3 σ.2.2.2.1 c i k (fun _ => 0), zu3 σ.2.2.2.2.1 c i k (fun _ => 0), zu3 σ.2.2.2.2.2 c i k (fun _ => none))
def zdv (c k : Nat) : Value := match zkd c k with
  | 0 => .int 0
  | 1 => .long 0
  | _ => .null
theorem W_size {p : Program} {l : Launch} {e : Env} {R : Room} {s : State} {m : MethodId} {args : Array Value} {below : List Frame} {meth : Method} {c : Code} {H : Heap} {locs : List Loc} {cells slots : Nat} {Q : State → Prop} {g : JFrame} (k : H.size ≤ s.heap.size + cells → W p l e R s m args below meth c H locs cells slots Q g) : W p l e R s m args below meth c H locs cells slots Q g := by
  intro T hT X
  have h := X.heapSize
  rw [hT] at h
  exact k h T hT X
theorem zc_push {D : va_G} {aC : Nat → ClassId} {A : Nat → Prop} {nl nl' : zNL} {ad : Nat → Nat → Nat → Nat} {σ σ' : zM} {s : State} {H H1 : Heap} (hG : zG D aC A nl ad σ s H) {q : Nat × Nat × Nat} (h1 : nl'.1 = nl.1 ++ [q]) (hq : zad ad q = H.size) (hz : ∀ x : Nat, x < H.size → H1[x]? = H[x]?) (hA : A H.size) (hc : ∀ q' ∈ nl.1, zcell nl' aC ad σ' q' = zcell nl aC ad σ q') (hn : va_at D vwCl (zad ad q, zcell nl' aC ad σ' q) H1) (hR : zRf nl' σ') : zG D aC A nl' ad σ' s H1 := by
  have e : zws aC nl' ad σ' = zws aC nl ad σ ++ [(zad ad q, zcell nl' aC ad σ' q)] := by
    unfold zws
    rw [h1, List.map_append]
    congr 1
    exact List.map_congr_left fun q' hq' => by rw [hc q' hq']
  refine ⟨?_, ?_, hG.2.2.1, hR⟩
  · rw [e]
    refine (hG.1.kept fun k x hx => hz x.1 ((hG.1 k x hx).lt)).app (fun k x hx => ?_)
    have hk : k < 1 := (List.getElem?_eq_some_iff.mp hx).1
    rw [show k = 0 by omega] at hx
    cases hx
    exact hn
  · rw [e]
    exact hG.2.1.push hG.1 hq (by rw [hq]; exact hA)
section ZMAKE
variable {p : Program} {l : Launch} {e : Env} {R : Room} {s : State} {m : MethodId} {args : Array Value} {below : List Frame} {meth : Method} {c : Code} {H : Heap} {locs : List Loc} {cells slots : Nat} {Q : State → Prop}
variable {cc : ByteArray} {nL pc : Nat} {ls : Array Slot} {rest : List Value} {D : va_G} {A : Nat → Prop} {aC : Nat → ClassId} {nl : zNL} {ad : Nat → Nat → Nat → Nat} {σ : zM} {H0 : Heap} {own : String}
theorem zc_new (S : zS p m c cc nL s args own) (hG : zG D aC A nl ad σ s H) (hS : va_S A s.heap H locs) (hA : ∀ q : Nat, s.heap.size ≤ q → A q) {c0 i0 index : Nat} {C : String} {T : u_T} (ty0 : Nat → FieldType) (hty : ∀ k, k < zN c0 → parseFieldDescriptor (T k).2.2.1 = some (ty0 k)) (hc : vwCl[c0]? = some (C, T, zN c0)) (hin : ∀ w ∈ u_ws C T (zN c0), w ∈ wsL_law) (w1 : Cond.classLink own index C ∈ wsL_law) (w2 : Cond.instantiable C (zN c0) ∈ wsL_law) (w3 : Cond.initialized C ∈ wsL_law) (ks : List Nat) (hks : ∀ k, k < zN c0 → 3 ≤ zkd c0 k → k ∈ ks) (hks2 : ∀ k ∈ ks, 3 ≤ zkd c0 k) (hdv : ∀ k, k < zN c0 → defaultValue (ty0 k) = zdv c0 k) (hfr : (c0, i0, 0) ∉ nl.1) (hfr2 : ∀ k, (c0, i0, k) ∉ nl.2) (had : ad c0 i0 0 = H.size) (hcells : cells + 1 ≤ R.cells) (hslots : slots + zN c0 ≤ R.slots) (hdg : decode cc pc = .ok (.new index, 3))
    (kk : ∀ (H1 : Heap), H1.size = H.size + 1 → zG D aC A (nl.1 ++ [(c0, i0, 0)], ks.map (fun k => (c0, i0, k)) ++ nl.2) ad (zclr σ c0 i0) s H1 → va_S A s.heap H1 locs → W p l e R s m args below meth c H1 locs (cells + 1) (slots + zN c0) Q (F0 m (pc + 3) ls (.ref (ad c0 i0 0) :: rest))) : W p l e R s m args below meth c H locs cells slots Q (F0 m pc ls rest) := by
  obtain ⟨hx, hb, -, hown, hts⟩ := S
  have hKn := hG.2.2.1.1 c0 _ hc
  refine W.newcK hx hb hown (hts _ w1) (hts _ w2) (hts _ w3) rfl hdg hcells hslots hKn.2.1 rfl fun H1 kC hkC e1 z1 o1 => ?_
  have hS1 : va_S A s.heap H1 locs := ⟨Nat.le_trans hS.1 (by omega), fun x h1 h2 => (o1 x (Nat.lt_of_lt_of_le h1 hS.1)).trans (hS.2.1 x h1 h2), hS.2.2⟩
  rw [← had]
  refine kk H1 z1 (zc_push hG (q := (c0, i0, 0)) rfl had o1 (hA _ hS.1) ?_ ?_ ?_) hS1
  · intro q' hq'
    obtain ⟨a, b, k⟩ := q'
    cases k with
    | succ k => rfl
    | zero =>
      have hne : ¬ (a = c0 ∧ b = i0) := fun h => hfr (by rw [← h.1, ← h.2]; exact hq')
      rw [zcell_obj, zcell_obj]
      congr 2
      refine List.map_congr_left fun j _ => ?_
      have h0 : zval0 ad (zclr σ c0 i0) a b j = zval0 ad σ a b j := by
        unfold zval0
        split <;> first | rfl | (simp only [zI, zJ, zR, zclr, if_neg hne])
      unfold zval
      rw [h0]
      have h1 : ((a, b, j) ∈ ks.map (fun k => (c0, i0, k)) ++ nl.2) ↔ (a, b, j) ∈ nl.2 := by
        rw [List.mem_append]
        refine ⟨fun h => h.elim (fun h => ?_) id, Or.inr⟩
        obtain ⟨k, -, hk⟩ := List.mem_map.mp h
        cases hk
        exact absurd ⟨rfl, rfl⟩ hne
      by_cases hm : (a, b, j) ∈ nl.2
      · rw [if_pos hm, if_pos (h1.mpr hm)]
      · rw [if_neg hm, if_neg (fun h => hm (h1.mp h))]
  · refine ⟨_, hc, t_OB.to (u_born ty0 hts hin hKn hkC (by show H1[ad c0 i0 0]? = _; rw [had]; exact e1) hty) ?_⟩
    intro k hk
    show defaultValue (ty0 k) = vp_V ((List.range (zN c0)).map _) k
    rw [hdv k hk]
    simp only [vp_V, List.getD_eq_getElem?_getD, List.getElem?_map, List.getElem?_range hk, Option.map_some, Option.getD_some]
    unfold zval
    by_cases h3 : 3 ≤ zkd c0 k
    · have hm : (c0, i0, k) ∈ ks.map (fun k => (c0, i0, k)) ++ nl.2 := List.mem_append_left _ (List.mem_map.mpr ⟨k, hks k hk h3, rfl⟩)
      rw [if_pos hm]
      unfold zdv
      split <;> first | omega | rfl
    · have hm : (c0, i0, k) ∉ ks.map (fun k => (c0, i0, k)) ++ nl.2 := by
        intro h
        rcases List.mem_append.mp h with h | h
        · obtain ⟨k', hk', e⟩ := List.mem_map.mp h
          cases e
          exact h3 (hks2 k hk')
        · exact hfr2 k h
      rw [if_neg hm]
      unfold zdv zval0
      have h4 : zkd c0 k = 0 ∨ zkd c0 k = 1 ∨ zkd c0 k = 2 := by omega
      rcases h4 with h | h | h <;> simp [h, zI, zJ, zR, zclr, va_rf]
  · have hmono : ∀ a b, (a, b) ≠ (c0, i0) → zin nl a b → zin (nl.1 ++ [(c0, i0, 0)], ks.map (fun k => (c0, i0, k)) ++ nl.2) a b := by
      intro a b hne hz
      refine ⟨List.mem_append_left _ hz.1, fun k h1 h2 => List.mem_append_left _ (hz.2.1 k h1 h2), fun k h => ?_⟩
      rcases List.mem_append.mp h with h | h
      · obtain ⟨k', -, e⟩ := List.mem_map.mp h
        cases e
        exact hne rfl
      · exact hz.2.2 k h
    have hnot : ∀ a b, zin nl a b → (a, b) ≠ (c0, i0) := fun a b hz h => by cases h; exact hfr hz.1
    refine ⟨fun c i k j h2 hj => ?_, fun c i k x j h2 hj => ?_, fun c i k x j h2 hj => ?_⟩
    · by_cases hc : c = c0 ∧ i = i0
      · simp only [zR, zclr, if_pos hc] at hj
        cases hj
      · simp only [zR, zclr, if_neg hc] at hj
        have hz := hG.2.2.2.1 c i k j h2 hj
        exact hmono _ _ (hnot _ _ hz) hz
    · have hz := hG.2.2.2.2.1 c i k x j h2 hj
      exact hmono _ _ (hnot _ _ hz) hz
    · have hz := hG.2.2.2.2.2 c i k x j h2 hj
      exact hmono _ _ (hnot _ _ hz) hz
theorem zin_push {q : Nat × Nat × Nat} {a b : Nat} (h : zin nl a b) : zin (nl.1 ++ [q], nl.2) a b := ⟨List.mem_append_left _ h.1, fun k h1 h2 => List.mem_append_left _ (h.2.1 k h1 h2), h.2.2⟩
theorem zclA_cell {c0 i0 k0 : Nat} (hfr : (c0, i0, k0 + 1) ∉ nl.1) (q' : Nat × Nat × Nat) (hq' : q' ∈ nl.1) (nl' : zNL) (h2 : nl'.2 = nl.2) : zcell nl' aC ad (zclA σ c0 i0 k0) q' = zcell nl aC ad σ q' := by
  obtain ⟨a, b, k⟩ := q'
  cases k with
  | zero =>
    rw [zcell_obj, zcell_obj]
    congr 2
    refine List.map_congr_left fun j _ => ?_
    unfold zval
    rw [h2]
    rfl
  | succ k =>
    rw [zcell_arr, zcell_arr]
    have hne : ¬ (a = c0 ∧ b = i0 ∧ k = k0) := fun h => hfr (by rw [← h.1, ← h.2.1, ← h.2.2]; exact hq')
    unfold zarr
    split <;> first | rfl | (simp only [zA, zL, zO, zclA, zu3_ne hne])
theorem zclA_Rf (hR : zRf nl σ) (q : Nat × Nat × Nat) (c0 i0 k0 : Nat) : zRf (nl.1 ++ [q], nl.2) (zclA σ c0 i0 k0) := by
  refine ⟨fun c i k j h2 hj => zin_push (hR.1 c i k j h2 hj), fun c i k x j h2 hj => ?_, fun c i k x j h2 hj => ?_⟩
  · by_cases hc : c = c0 ∧ i = i0 ∧ k = k0
    · obtain ⟨rfl, rfl, rfl⟩ := hc
      simp only [zO, zclA, zu3_eq] at hj
      cases hj
    · simp only [zO, zclA, zu3_ne hc] at hj
      exact zin_push (hR.2.1 c i k x j h2 hj)
  · by_cases hc : c = c0 ∧ i = i0 ∧ k = k0
    · obtain ⟨rfl, rfl, rfl⟩ := hc
      simp only [zO, zclA, zu3_eq] at hj
      cases hj
    · simp only [zO, zclA, zu3_ne hc] at hj
      exact zin_push (hR.2.2 c i k x j h2 hj)
theorem zc_newarr (S : zS p m c cc nL s args own) (hG : zG D aC A nl ad σ s H) (hS : va_S A s.heap H locs) (hA : ∀ q : Nat, s.heap.size ≤ q → A q) {c0 i0 k0 N : Nat} {atype : ArrayType} (w1 : Cond.arrayClass (newarray.typeOf atype) ∈ wsL_law) (hkd : (atype = .int ∧ zkd c0 k0 = 4) ∨ (atype = .byte ∧ zkd c0 k0 = 5) ∨ (atype = .boolean ∧ zkd c0 k0 = 6) ∨ (atype = .long ∧ zkd c0 k0 = 7)) (hfr : (c0, i0, k0 + 1) ∉ nl.1) (had : ad c0 i0 (k0 + 1) = H.size) {n : Int32} (hn : ¬ n < 0) (hN : n.toNatClampNeg = N) (hln : zln c0 i0 k0 = N) (hsm : N ≤ 10000) (hcells : cells + 1 ≤ R.cells) (hslots : slots + N ≤ R.slots) (hdg : decode cc pc = .ok (.newarray atype, 2))
    (kk : ∀ (H1 : Heap), H1.size = H.size + 1 → zG D aC A (nl.1 ++ [(c0, i0, k0 + 1)], nl.2) ad (zclA σ c0 i0 k0) s H1 → va_S A s.heap H1 locs → W p l e R s m args below meth c H1 locs (cells + 1) (slots + N) Q (F0 m (pc + 2) ls (.ref (ad c0 i0 (k0 + 1)) :: rest))) : W p l e R s m args below meth c H locs cells slots Q (F0 m pc ls (.int n :: rest)) := by
  obtain ⟨hx, hb, -, hown, hts⟩ := S
  have hby : N * componentBytes (newarray.typeOf atype) ≤ 536870912 := by
    have h8 : componentBytes (newarray.typeOf atype) ≤ 8 := by rcases hkd with ⟨rfl, -⟩ | ⟨rfl, -⟩ | ⟨rfl, -⟩ | ⟨rfl, -⟩ <;> decide
    exact Nat.le_trans (Nat.mul_le_mul hsm h8) (by decide)
  refine va_newaK hx hb (hts _ w1) rfl hdg rfl hn hN hby hcells hslots rfl fun H1 cA e1 z1 o1 hAr hNm => ?_
  have hS1 : va_S A s.heap H1 locs := ⟨Nat.le_trans hS.1 (by omega), fun x h1 h2 => (o1 x (Nat.lt_of_lt_of_le h1 hS.1)).trans (hS.2.1 x h1 h2), hS.2.2⟩
  rw [← had]
  refine kk H1 z1 (zc_push hG (q := (c0, i0, k0 + 1)) rfl had o1 (hA _ hS.1) (fun q' hq' => zclA_cell hfr q' hq' _ rfl) ?_ (zclA_Rf hG.2.2.2 _ c0 i0 k0)) hS1
  rw [zcell_arr]
  have hK := hG.2.2.1.2
  rcases hkd with ⟨rfl, hk⟩ | ⟨rfl, hk⟩ | ⟨rfl, hk⟩ | ⟨rfl, hk⟩
  · have hcA : cA = aC 4 := Option.some.inj (hNm.symm.trans ((hK 0 (aC 4, .int) rfl).2))
    rw [zarr_i hk (Or.inl rfl)]
    show H1[ad c0 i0 (k0 + 1)]? = some (vp_cell _ _)
    rw [had, e1, vp_cell_i, hln, hcA]
    simp only [zA, zclA, zu3_eq]
    rfl
  · have hcA : cA = aC 5 := Option.some.inj (hNm.symm.trans ((hK 1 (aC 5, .byte) rfl).2))
    rw [zarr_i hk (Or.inr (Or.inl rfl))]
    show H1[ad c0 i0 (k0 + 1)]? = some (vp_cell _ _)
    rw [had, e1, vp_cell_i, hln, hcA]
    simp only [zA, zclA, zu3_eq]
    rfl
  · have hcA : cA = aC 6 := Option.some.inj (hNm.symm.trans ((hK 2 (aC 6, .boolean) rfl).2))
    rw [zarr_i hk (Or.inr (Or.inr rfl))]
    show H1[ad c0 i0 (k0 + 1)]? = some (vp_cell _ _)
    rw [had, e1, vp_cell_i, hln, hcA]
    simp only [zA, zclA, zu3_eq]
    rfl
  · have hcA : cA = aC 7 := Option.some.inj (hNm.symm.trans ((hK 3 (aC 7, .long) rfl).2))
    rw [zarr_l hk]
    show H1[ad c0 i0 (k0 + 1)]? = some (vp_cell _ _)
    rw [had, e1, vp_cell_l, hln, hcA]
    simp only [zL, zclA, zu3_eq]
    rfl
theorem zws_set2 {σ' : zM} {nl' : zNL} (h1 : nl'.1 = nl.1) (hD : va_D A (zws aC nl ad σ)) {k : Nat} {q : Nat × Nat × Nat} (hk : nl.1[k]? = some q) {e : va_E} (he : zcell nl' aC ad σ' q = e) (ho : ∀ q', q' ≠ q → zcell nl' aC ad σ' q' = zcell nl aC ad σ q') : (zws aC nl ad σ).set k (zad ad q, e) = zws aC nl' ad σ' := by
  have hkl : k < nl.1.length := (List.getElem?_eq_some_iff.mp hk).1
  apply List.ext_getElem?
  intro j
  by_cases hj : k = j
  · subst hj
    rw [List.getElem?_set_self (by simp [zws, hkl])]
    simp [zws, h1, hk, he]
  · rw [List.getElem?_set_ne hj]
    simp only [zws, List.getElem?_map, h1]
    cases hb : nl.1[j]? with
    | none => rfl
    | some q' =>
      have hne : q' ≠ q := by
        intro h
        subst h
        have := hD.1 k j (zad ad q', zcell nl aC ad σ q') (zad ad q', zcell nl aC ad σ q') (by simp [zws, hk]) (by simp [zws, hb]) rfl
        exact hj this
      simp [ho q' hne]
theorem zfs_set2 {σ' : zM} {nl' : zNL} (c i k : Nat) {v : Value} (hv : zval nl' ad σ' c i k = v) (ho : ∀ j, j ≠ k → zval nl' ad σ' c i j = zval nl ad σ c i j) : ((List.range (zN c)).map (zval nl ad σ c i)).set k v = (List.range (zN c)).map (zval nl' ad σ' c i) := by
  apply List.ext_getElem?
  intro j
  by_cases hj : k = j
  · subst hj
    by_cases hk : k < zN c
    · rw [List.getElem?_set_self (by simp [hk])]
      simp [hk, hv]
    · rw [List.getElem?_set]
      simp [hk]
  · rw [List.getElem?_set_ne hj]
    simp only [List.getElem?_map]
    cases hb : (List.range (zN c))[j]? with
    | none => rfl
    | some x =>
      have : x = j := by
        obtain ⟨h1, h2⟩ := List.getElem?_eq_some_iff.mp hb
        simpa using h2.symm
      subst this
      simp [ho x (fun h => hj h.symm)]
theorem zin_drop {N : List (Nat × Nat × Nat)} {nu : List (Nat × Nat × Nat)} {x : Nat × Nat × Nat} {a b : Nat} (h : zin (N, x :: nu) a b) : zin (N, nu) a b := ⟨h.1, h.2.1, fun k hk => h.2.2 k (List.mem_cons_of_mem _ hk)⟩
/-- a final field of an object that is being made gets its cell -/
theorem zc_putref {N nu : List (Nat × Nat × Nat)} (S : zS p m c cc nL s args own) {c0 i0 k0 index : Nat} (hG : zG D aC A (N, (c0, i0, k0) :: nu) ad σ s H) (hS : va_S A H0 H locs) {C : String} {T : u_T} (ty0 : Nat → FieldType) (hty : ∀ k, k < zN c0 → parseFieldDescriptor (T k).2.2.1 = some (ty0 k)) (hnm : ∀ a, a < zN c0 → ∀ b, b < zN c0 → a ≠ b → (T a).2.1 ≠ (T b).2.1) (hobj : (c0, i0, 0) ∈ N) (hnn : (c0, i0, k0) ∉ nu) (hc : vwCl[c0]? = some (C, T, zN c0)) (hin : ∀ w ∈ u_ws C T (zN c0), w ∈ wsL_law) (hk : k0 < zN c0) (hT : (T k0).1 = C) (hfin : (T k0).2.2.2 = true) (hin2 : meth.name = "<init>") (hdecl : (T k0).1 = own) (hlink : Cond.fieldLink own index C (T k0).2.1 (T k0).2.2.1 ∈ wsL_law) {ty : FieldType} {v : Value} (hd : parseFieldDescriptor (T k0).2.2.1 = some ty) (hna : narrow ty v = v) (hfit : fits ty v = true) (hv : zval0 ad σ c0 i0 k0 = v) (hdg : decode cc pc = .ok (.putfield index, 3))
    (kk : ∀ (H1 : Heap) (locs1 : List Loc), zG D aC A (N, nu) ad σ s H1 → va_S A H0 H1 locs1 → W p l e R s m args below meth c H1 locs1 cells slots Q (F0 m (pc + 3) ls rest)) : W p l e R s m args below meth c H locs cells slots Q (F0 m pc ls (v :: .ref (ad c0 i0 0) :: rest)) := by
  obtain ⟨hx, hb, -, hown, hts⟩ := S
  obtain ⟨q0, hq0, hq⟩ := zG_at hG hobj
  refine va_putF hx hb hts hin ty0 hty hnm hown hG.2.2.1 hG.1 hG.2.1 hS q0 hq hc k0 hk (hts _ hlink) (fun _ h => by rw [hT] at h; exact h) hfin hin2 hdecl hd hna hfit (by simp [hk]) hdg (fun H1 locs1 hP1 hD1 hS1 => ?_)
  have hmem : ∀ a b j, (a, b, j) ≠ (c0, i0, k0) → zval (N, nu) ad σ a b j = zval (N, (c0, i0, k0) :: nu) ad σ a b j := by
    intro a b j hne
    unfold zval
    by_cases hm : (a, b, j) ∈ nu
    · rw [if_pos hm, if_pos (List.mem_cons_of_mem _ hm)]
    · rw [if_neg hm, if_neg (fun h => (List.mem_cons.mp h).elim hne hm)]
  have hset : (zws aC (N, (c0, i0, k0) :: nu) ad σ).set q0 (zad ad (c0, i0, 0), .inr (c0, ((List.range (zN c0)).map (zval (N, (c0, i0, k0) :: nu) ad σ c0 i0)).set k0 v)) = zws aC (N, nu) ad σ := by
    refine zws_set2 (nl := (N, (c0, i0, k0) :: nu)) (nl' := (N, nu)) rfl hG.2.1 hq0 ?_ ?_
    · rw [zcell_obj]
      congr 2
      refine (zfs_set2 (nl := (N, (c0, i0, k0) :: nu)) (nl' := (N, nu)) c0 i0 k0 (by rw [zval, if_neg hnn]; exact hv) (fun j hj => hmem c0 i0 j (fun h => hj (by cases h; rfl)))).symm
    · intro q' hq'
      obtain ⟨a, b, k⟩ := q'
      cases k with
      | succ k => rfl
      | zero =>
        rw [zcell_obj, zcell_obj]
        congr 2
        exact List.map_congr_left fun j _ => hmem a b j (fun h => hq' (by cases h; rfl))
  exact kk H1 locs1 ⟨by rw [← hset]; exact hP1, by rw [← hset]; exact hD1, hG.2.2.1, ⟨fun c i k j h2 hj => zin_drop (hG.2.2.2.1 c i k j h2 hj), fun c i k x j h2 hj => zin_drop (hG.2.2.2.2.1 c i k x j h2 hj), fun c i k x j h2 hj => zin_drop (hG.2.2.2.2.2 c i k x j h2 hj)⟩⟩ hS1
/-- a field of an object that is being made: a number, or a reference that may be nothing -/
theorem zc_put (S : zS p m c cc nL s args own) (hG : zG D aC A nl ad σ s H) (hS : va_S A H0 H locs) {c0 i0 k0 index : Nat} {C : String} {T : u_T} (ty0 : Nat → FieldType) (hty : ∀ k, k < zN c0 → parseFieldDescriptor (T k).2.2.1 = some (ty0 k)) (hnm : ∀ a, a < zN c0 → ∀ b, b < zN c0 → a ≠ b → (T a).2.1 ≠ (T b).2.1) (hobj : (c0, i0, 0) ∈ nl.1) (hc : vwCl[c0]? = some (C, T, zN c0)) (hin : ∀ w ∈ u_ws C T (zN c0), w ∈ wsL_law) (hk : k0 < zN c0) (hT : (T k0).1 = C) (hfin : (T k0).2.2.2 = false ∨ ((T k0).2.2.2 = true ∧ meth.name = "<init>" ∧ (T k0).1 = own)) (hlink : Cond.fieldLink own index C (T k0).2.1 (T k0).2.2.1 ∈ wsL_law) {ty : FieldType} {v : Value} (hd : parseFieldDescriptor (T k0).2.2.1 = some ty) (hna : narrow ty v = v) (hfit : fits ty v = true) {σ' : zM} (hv : zval nl ad σ' c0 i0 k0 = v) (ho : ∀ j, j ≠ k0 → zval nl ad σ' c0 i0 j = zval nl ad σ c0 i0 j) (hoo : ∀ q', q' ≠ (c0, i0, 0) → zcell nl aC ad σ' q' = zcell nl aC ad σ q') (hRf : zRf nl σ') (hdg : decode cc pc = .ok (.putfield index, 3))
    (kk : ∀ (H1 : Heap) (locs1 : List Loc), zG D aC A nl ad σ' s H1 → va_S A H0 H1 locs1 → W p l e R s m args below meth c H1 locs1 cells slots Q (F0 m (pc + 3) ls rest)) : W p l e R s m args below meth c H locs cells slots Q (F0 m pc ls (v :: .ref (ad c0 i0 0) :: rest)) := by
  obtain ⟨hx, hb, -, hown, hts⟩ := S
  obtain ⟨q0, hq0, hq⟩ := zG_at hG hobj
  have hset : (zws aC nl ad σ).set q0 (zad ad (c0, i0, 0), .inr (c0, ((List.range (zN c0)).map (zval nl ad σ c0 i0)).set k0 v)) = zws aC nl ad σ' := by
    refine zws_set2 rfl hG.2.1 hq0 ?_ hoo
    rw [zcell_obj, zfs_set2 (nl' := nl) (σ' := σ') c0 i0 k0 hv ho]
  rcases hfin with hfin | ⟨hfin, hin2, hdecl⟩
  · refine va_put hx hb hts hin ty0 hty hnm hown hG.2.2.1 hG.1 hG.2.1 hS q0 hq hc k0 hk (hts _ hlink) (fun _ h => by rw [hT] at h; exact h) hfin hd hna hfit (by simp [hk]) hdg (fun H1 locs1 hP1 hD1 hS1 => ?_)
    exact kk H1 locs1 ⟨by rw [← hset]; exact hP1, by rw [← hset]; exact hD1, hG.2.2.1, hRf⟩ hS1
  · refine va_putF hx hb hts hin ty0 hty hnm hown hG.2.2.1 hG.1 hG.2.1 hS q0 hq hc k0 hk (hts _ hlink) (fun _ h => by rw [hT] at h; exact h) hfin hin2 hdecl hd hna hfit (by simp [hk]) hdg (fun H1 locs1 hP1 hD1 hS1 => ?_)
    exact kk H1 locs1 ⟨by rw [← hset]; exact hP1, by rw [← hset]; exact hD1, hG.2.2.1, hRf⟩ hS1
theorem zc_putI (S : zS p m c cc nL s args own) (hG : zG D aC A nl ad σ s H) (hS : va_S A H0 H locs) {c0 i0 k0 index : Nat} {C : String} {T : u_T} (ty0 : Nat → FieldType) (hty : ∀ k, k < zN c0 → parseFieldDescriptor (T k).2.2.1 = some (ty0 k)) (hnm : ∀ a, a < zN c0 → ∀ b, b < zN c0 → a ≠ b → (T a).2.1 ≠ (T b).2.1) (hobj : (c0, i0, 0) ∈ nl.1) (hnn : (c0, i0, k0) ∉ nl.2) (hc : vwCl[c0]? = some (C, T, zN c0)) (hin : ∀ w ∈ u_ws C T (zN c0), w ∈ wsL_law) (hk : k0 < zN c0) (hT : (T k0).1 = C) (hfin : (T k0).2.2.2 = false ∨ ((T k0).2.2.2 = true ∧ meth.name = "<init>" ∧ (T k0).1 = own)) (hlink : Cond.fieldLink own index C (T k0).2.1 (T k0).2.2.1 ∈ wsL_law) {x : Int32} (hd : parseFieldDescriptor (T k0).2.2.1 = some .int) (hkd : zkd c0 k0 = 0) (hdg : decode cc pc = .ok (.putfield index, 3))
    (kk : ∀ (H1 : Heap) (locs1 : List Loc), zG D aC A nl ad (zsI σ c0 i0 k0 x) s H1 → va_S A H0 H1 locs1 → W p l e R s m args below meth c H1 locs1 cells slots Q (F0 m (pc + 3) ls rest)) : W p l e R s m args below meth c H locs cells slots Q (F0 m pc ls (.int x :: .ref (ad c0 i0 0) :: rest)) :=
  zc_put S hG hS ty0 hty hnm hobj hc hin hk hT hfin hlink hd rfl rfl (zval_I' nl ad σ c0 i0 k0 x hkd hnn) (fun j hj => zval_I nl ad σ c0 i0 k0 x j hj) (fun q hq => zcell_I nl aC ad σ c0 i0 k0 x q hq) hG.2.2.2 hdg kk
theorem zc_putJ (S : zS p m c cc nL s args own) (hG : zG D aC A nl ad σ s H) (hS : va_S A H0 H locs) {c0 i0 k0 index : Nat} {C : String} {T : u_T} (ty0 : Nat → FieldType) (hty : ∀ k, k < zN c0 → parseFieldDescriptor (T k).2.2.1 = some (ty0 k)) (hnm : ∀ a, a < zN c0 → ∀ b, b < zN c0 → a ≠ b → (T a).2.1 ≠ (T b).2.1) (hobj : (c0, i0, 0) ∈ nl.1) (hnn : (c0, i0, k0) ∉ nl.2) (hc : vwCl[c0]? = some (C, T, zN c0)) (hin : ∀ w ∈ u_ws C T (zN c0), w ∈ wsL_law) (hk : k0 < zN c0) (hT : (T k0).1 = C) (hfin : (T k0).2.2.2 = false ∨ ((T k0).2.2.2 = true ∧ meth.name = "<init>" ∧ (T k0).1 = own)) (hlink : Cond.fieldLink own index C (T k0).2.1 (T k0).2.2.1 ∈ wsL_law) {x : Int64} (hd : parseFieldDescriptor (T k0).2.2.1 = some .long) (hkd : zkd c0 k0 = 1) (hdg : decode cc pc = .ok (.putfield index, 3))
    (kk : ∀ (H1 : Heap) (locs1 : List Loc), zG D aC A nl ad (zsJ σ c0 i0 k0 x) s H1 → va_S A H0 H1 locs1 → W p l e R s m args below meth c H1 locs1 cells slots Q (F0 m (pc + 3) ls rest)) : W p l e R s m args below meth c H locs cells slots Q (F0 m pc ls (.long x :: .ref (ad c0 i0 0) :: rest)) :=
  zc_put S hG hS ty0 hty hnm hobj hc hin hk hT hfin hlink hd rfl rfl (zval_J' nl ad σ c0 i0 k0 x hkd hnn) (fun j hj => zval_J nl ad σ c0 i0 k0 x j hj) (fun q hq => zcell_J nl aC ad σ c0 i0 k0 x q hq) hG.2.2.2 hdg kk
theorem zc_putN (S : zS p m c cc nL s args own) (hG : zG D aC A nl ad σ s H) (hS : va_S A H0 H locs) {c0 i0 k0 index : Nat} {C : String} {T : u_T} (ty0 : Nat → FieldType) (hty : ∀ k, k < zN c0 → parseFieldDescriptor (T k).2.2.1 = some (ty0 k)) (hnm : ∀ a, a < zN c0 → ∀ b, b < zN c0 → a ≠ b → (T a).2.1 ≠ (T b).2.1) (hobj : (c0, i0, 0) ∈ nl.1) (hnn : (c0, i0, k0) ∉ nl.2) (hc : vwCl[c0]? = some (C, T, zN c0)) (hin : ∀ w ∈ u_ws C T (zN c0), w ∈ wsL_law) (hk : k0 < zN c0) (hT : (T k0).1 = C) (hfin : (T k0).2.2.2 = false ∨ ((T k0).2.2.2 = true ∧ meth.name = "<init>" ∧ (T k0).1 = own)) (hlink : Cond.fieldLink own index C (T k0).2.1 (T k0).2.2.1 ∈ wsL_law) {cn : String} (hd : parseFieldDescriptor (T k0).2.2.1 = some (.object cn)) (hkd : zkd c0 k0 = 2) (hdg : decode cc pc = .ok (.putfield index, 3))
    (kk : ∀ (H1 : Heap) (locs1 : List Loc), zG D aC A nl ad (zsR σ c0 i0 k0 none) s H1 → va_S A H0 H1 locs1 → W p l e R s m args below meth c H1 locs1 cells slots Q (F0 m (pc + 3) ls rest)) : W p l e R s m args below meth c H locs cells slots Q (F0 m pc ls (.null :: .ref (ad c0 i0 0) :: rest)) :=
  zc_put S hG hS ty0 hty hnm hobj hc hin hk hT hfin hlink hd rfl rfl (zval_R' nl ad σ c0 i0 k0 none hkd hnn) (fun j hj => zval_R nl ad σ c0 i0 k0 none j hj) (fun q hq => zcell_R nl aC ad σ c0 i0 k0 none q hq) (zRf_R hG.2.2.2 c0 i0 k0 none (fun _ h => by cases h)) hdg kk
theorem zc_putR {j0 c0 i0 k0 index : Nat} (hkid : zin nl (zto c0 k0) j0) (S : zS p m c cc nL s args own) (hG : zG D aC A nl ad σ s H) (hS : va_S A H0 H locs) {C : String} {T : u_T} (ty0 : Nat → FieldType) (hty : ∀ k, k < zN c0 → parseFieldDescriptor (T k).2.2.1 = some (ty0 k)) (hnm : ∀ a, a < zN c0 → ∀ b, b < zN c0 → a ≠ b → (T a).2.1 ≠ (T b).2.1) (hobj : (c0, i0, 0) ∈ nl.1) (hnn : (c0, i0, k0) ∉ nl.2) (hc : vwCl[c0]? = some (C, T, zN c0)) (hin : ∀ w ∈ u_ws C T (zN c0), w ∈ wsL_law) (hk : k0 < zN c0) (hT : (T k0).1 = C) (hfin : (T k0).2.2.2 = false ∨ ((T k0).2.2.2 = true ∧ meth.name = "<init>" ∧ (T k0).1 = own)) (hlink : Cond.fieldLink own index C (T k0).2.1 (T k0).2.2.1 ∈ wsL_law) {cn : String} (hd : parseFieldDescriptor (T k0).2.2.1 = some (.object cn)) (hkd : zkd c0 k0 = 2) (hdg : decode cc pc = .ok (.putfield index, 3))
    (kk : ∀ (H1 : Heap) (locs1 : List Loc), zG D aC A nl ad (zsR σ c0 i0 k0 (some j0)) s H1 → va_S A H0 H1 locs1 → W p l e R s m args below meth c H1 locs1 cells slots Q (F0 m (pc + 3) ls rest)) : W p l e R s m args below meth c H locs cells slots Q (F0 m pc ls (.ref (ad (zto c0 k0) j0 0) :: .ref (ad c0 i0 0) :: rest)) :=
  zc_put S hG hS ty0 hty hnm hobj hc hin hk hT hfin hlink hd rfl rfl (zval_R' nl ad σ c0 i0 k0 (some j0) hkd hnn) (fun j hj => zval_R nl ad σ c0 i0 k0 (some j0) j hj) (fun q hq => zcell_R nl aC ad σ c0 i0 k0 (some j0) q hq) (zRf_R hG.2.2.2 c0 i0 k0 (some j0) (fun j h => by cases h; exact hkid)) hdg kk
theorem zc_iast (S : zS p m c cc nL s args own) (hG : zG D aC A nl ad σ s H) (hS : va_S A H0 H locs) {c0 i0 k0 : Nat} (hm : (c0, i0, k0 + 1) ∈ nl.1) (hkd : zkd c0 k0 = 4) {i x : Int32} {j : Nat} (hj : zix i (zln c0 i0 k0) = some j) (hdg : decode cc pc = .ok (.iastore, 1))
    (kk : ∀ (H1 : Heap) (locs1 : List Loc), zG D aC A nl ad (zsA σ c0 i0 k0 j x) s H1 → va_S A H0 H1 locs1 → W p l e R s m args below meth c H1 locs1 cells slots Q (F0 m (pc + 1) ls rest)) : W p l e R s m args below meth c H locs cells slots Q (F0 m pc ls (.int x :: .int i :: .ref (ad c0 i0 (k0 + 1)) :: rest)) := by
  obtain ⟨hx, hb, -, hown, hts⟩ := S
  obtain ⟨q0, hq0, hq⟩ := zG_at hG hm
  obtain ⟨h1, rfl⟩ := zix_s hj
  rw [zcell_arr, zarr_i hkd (Or.inl rfl)] at hq
  refine va_iast hx hb hG.2.2.1 hG.1 hG.2.1 hS q0 0 hq rfl h1 hdg (fun H1 locs1 hP1 hD1 hS1 => ?_)
  rw [zws_set (D := D) (σ' := zsA σ c0 i0 k0 i.toNatClampNeg x) hG.2.1 hq0 (by rw [zcell_arr, zarr_i hkd (Or.inl rfl)]; simp only [zA, zsA, zu3_eq]; rfl) (fun q hq => zcell_A nl aC ad σ c0 i0 k0 _ x q hq)] at hP1 hD1
  exact kk H1 locs1 ⟨hP1, hD1, hG.2.2.1, hG.2.2.2⟩ hS1
theorem zc_newq (S : zS p m c cc nL s args own) (hG : zG D aC A nl ad σ s H) (hS : va_S A s.heap H locs) (hA : ∀ q : Nat, s.heap.size ≤ q → A q) {c0 i0 k0 N index t0 n0 c1 : Nat} {C : String} (hover : va_AO C s) (w1 : Cond.classLink own index C ∈ wsL_law) (ht : (ztys aC)[t0]? = some (aC n0, .object C)) (hz : ∀ (σ : zM), zarr aC ad σ c0 i0 k0 = .inl (aC n0, zln c0 i0 k0, .inr (.inr (.inr (.inr (fun j => (zO σ c0 i0 k0 j).map fun x => ad c1 x 0)))))) (hfr : (c0, i0, k0 + 1) ∉ nl.1) (had : ad c0 i0 (k0 + 1) = H.size) {n : Int32} (hn : ¬ n < 0) (hN : n.toNatClampNeg = N) (hln : zln c0 i0 k0 = N) (hsm : N ≤ 10000) (hcells : cells + 1 ≤ R.cells) (hslots : slots + N ≤ R.slots) (hdg : decode cc pc = .ok (.anewarray index, 3))
    (kk : ∀ (H1 : Heap), H1.size = H.size + 1 → zG D aC A (nl.1 ++ [(c0, i0, k0 + 1)], nl.2) ad (zclA σ c0 i0 k0) s H1 → va_S A s.heap H1 locs → W p l e R s m args below meth c H1 locs (cells + 1) (slots + N) Q (F0 m (pc + 3) ls (.ref (ad c0 i0 (k0 + 1)) :: rest))) : W p l e R s m args below meth c H locs cells slots Q (F0 m pc ls (.int n :: rest)) := by
  obtain ⟨hx, hb, -, hown, hts⟩ := S
  subst hN
  refine W.anew hx hb hown (hts _ w1) (va_AO.use hover) rfl hdg rfl hn (by omega) hcells hslots fun cA kA comp f1 f2 f3 f4 => ?_
  generalize hH1 : H.push ({ cls := cA, slots := Array.replicate n.toNatClampNeg .null, vm := .none } : Cell) = H1
  have z1 : H1.size = H.size + 1 := by rw [← hH1, Array.size_push]
  have e1 : H1[H.size]? = some (arrV cA n.toNatClampNeg (fun _ => .null)) := by rw [← hH1, Array.getElem?_push_size, ← arrV_new]
  have o1 : ∀ q : Nat, q < H.size → H1[q]? = H[q]? := fun q hq => by rw [← hH1, Array.getElem?_push, if_neg (Nat.ne_of_lt hq)]
  have hS1 : va_S A s.heap H1 locs := ⟨Nat.le_trans hS.1 (by omega), fun x h1 h2 => (o1 x (Nat.lt_of_lt_of_le h1 hS.1)).trans (hS.2.1 x h1 h2), hS.2.2⟩
  rw [← had]
  refine kk H1 z1 (zc_push hG (q := (c0, i0, k0 + 1)) rfl had o1 (hA _ hS.1) (fun q' hq' => zclA_cell hfr q' hq' _ rfl) ?_ (zclA_Rf hG.2.2.2 _ c0 i0 k0)) hS1
  rw [zcell_arr, hz]
  have hcA : cA = aC n0 := by
    obtain ⟨kA2, comp2, g1, g2, g3, g4⟩ := (hG.2.2.1.2 t0 _ ht).2
    exact Option.some.inj (f1.symm.trans g4)
  show H1[ad c0 i0 (k0 + 1)]? = some (vp_cell _ _)
  rw [had, e1, vp_cell_q, hln, hcA]
  simp only [zO, zclA, zu3_eq]
  rfl
end ZMAKE
