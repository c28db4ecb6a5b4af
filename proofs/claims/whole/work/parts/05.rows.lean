/-! the world over the machine: every cell that lives is one of the memory's, at an address that is a variable; rows for it -/
/-- the names of the cells that live, and the fields that are nothing still -/
abbrev zNL : Type := List (Nat × Nat × Nat) × List (Nat × Nat × Nat)
def zval0 (ad : Nat → Nat → Nat → Nat) (σ : zM) (c i k : Nat) : Value := match zkd c k with
  | 0 => .int (zI σ c i k)
  | 1 => .long (zJ σ c i k)
  | 2 => va_rf ((zR σ c i k).map fun j => ad (zto c k) j 0)
  | 3 => .ref (ad (zto c k) (zfi c k) 0)
  | _ => .ref (ad c i (k + 1))
def zval (nl : zNL) (ad : Nat → Nat → Nat → Nat) (σ : zM) (c i k : Nat) : Value := if (c, i, k) ∈ nl.2 then .null else zval0 ad σ c i k
def zarr (aC : Nat → ClassId) (ad : Nat → Nat → Nat → Nat) (σ : zM) (c i k : Nat) : va_E := match zkd c k with
  | 7 => .inl (aC 7, zln c i k, .inr (.inl (zL σ c i k)))
  | 8 => .inl (aC 8, zln c i k, .inr (.inr (.inr (.inr (fun j => (zO σ c i k j).map fun x => ad 7 x 0)))))
  | 9 => .inl (aC 9, zln c i k, .inr (.inr (.inr (.inr (fun j => (zO σ c i k j).map fun x => ad 0 x 0)))))
  | n => .inl (aC n, zln c i k, .inl (zA σ c i k))
def zcell (nl : zNL) (aC : Nat → ClassId) (ad : Nat → Nat → Nat → Nat) (σ : zM) (q : Nat × Nat × Nat) : va_E := match q.2.2 with
  | 0 => .inr (q.1, (List.range (zN q.1)).map (zval nl ad σ q.1 q.2.1))
  | k + 1 => zarr aC ad σ q.1 q.2.1 k
def zad (ad : Nat → Nat → Nat → Nat) (q : Nat × Nat × Nat) : Nat := ad q.1 q.2.1 q.2.2
def zws (aC : Nat → ClassId) (nl : zNL) (ad : Nat → Nat → Nat → Nat) (σ : zM) : va_W := nl.1.map fun q => (zad ad q, zcell nl aC ad σ q)
def zin (nl : zNL) (c i : Nat) : Prop := (c, i, 0) ∈ nl.1 ∧ (∀ k, k < zN c → 4 ≤ zkd c k → (c, i, k + 1) ∈ nl.1) ∧ ∀ k, (c, i, k) ∉ nl.2
def ztys (aC : Nat → ClassId) : List (ClassId × FieldType) := [(aC 4, .int), (aC 5, .byte), (aC 6, .boolean), (aC 7, .long), (aC 8, .object RX7), (aC 9, .object RX0)]
/-- what references lead to lives -/
def zRf (nl : zNL) (σ : zM) : Prop := (∀ c i k j, zkd c k = 2 → zR σ c i k = some j → zin nl (zto c k) j) ∧ (∀ c i k x j, zkd c k = 8 → zO σ c i k x = some j → zin nl 7 j) ∧ (∀ c i k x j, zkd c k = 9 → zO σ c i k x = some j → zin nl 0 j)
def zT0 : String := "room near apart rate wall way stair cost out close keep vote tie fee "
def zT1 : String := "least light within by most span if or and not first rank pair head number "
def zT2 : String := "cells ways stairs rooms dark late storeys "
def zTb : List (List Int32) := [[114, 111, 111, 109, 32, 110, 101, 97, 114, 32, 97, 112, 97, 114, 116, 32, 114, 97, 116, 101, 32, 119, 97, 108, 108, 32, 119, 97, 121, 32, 115, 116, 97, 105, 114, 32, 99, 111, 115, 116, 32, 111, 117, 116, 32, 99, 108, 111, 115, 101, 32, 107, 101, 101, 112, 32, 118, 111, 116, 101, 32, 116, 105, 101, 32, 102, 101, 101, 32], [108, 101, 97, 115, 116, 32, 108, 105, 103, 104, 116, 32, 119, 105, 116, 104, 105, 110, 32, 98, 121, 32, 109, 111, 115, 116, 32, 115, 112, 97, 110, 32, 105, 102, 32, 111, 114, 32, 97, 110, 100, 32, 110, 111, 116, 32, 102, 105, 114, 115, 116, 32, 114, 97, 110, 107, 32, 112, 97, 105, 114, 32, 104, 101, 97, 100, 32, 110, 117, 109, 98, 101, 114, 32], [99, 101, 108, 108, 115, 32, 119, 97, 121, 115, 32, 115, 116, 97, 105, 114, 115, 32, 114, 111, 111, 109, 115, 32, 100, 97, 114, 107, 32, 108, 97, 116, 101, 32, 115, 116, 111, 114, 101, 121, 115, 32]]
/-- the texts that the class holds, and what the JDK's text methods read -/
def zSa (A : Nat → Prop) (U : State) (H : Heap) : Prop := ∃ (adK adV : Nat → Nat) (sf : Value), vk_S 3 [69, 74, 42] zTb adK adV A U H ∧ vk_R RX10 15 zT0 (adK 0) U ∧ vk_R RX10 21 zT1 (adK 1) U ∧ vk_R RX10 23 zT2 (adK 2) U ∧ va_Z RJ0 "COMPACT_STRINGS" "Z" (.int 1) A U H ∧ va_Z RJ3 "SIOOBE_FORMATTER" "Ljava/util/function/BiFunction;" sf A U H ∧ (sf = .null ∨ ∃ a, sf = .ref a)
theorem zSa.warm {A : Nat → Prop} {u U : State} {H : Heap} (hW : u.WarmedH U.vm) (h : zSa A u H) : zSa A U H := by
  obtain ⟨adK, adV, sf, h0, h1, h2, h3, h4, h5, h6⟩ := h
  exact ⟨adK, adV, sf, vk_S.moved hW.alike h0, vk_R.warm hW h1, vk_R.warm hW h2, vk_R.warm hW h3, va_Z.moved hW.alike h4, va_Z.moved hW.alike h5, h6⟩
theorem zSa.same {A : Nat → Prop} {u U : State} {H : Heap} (hv : U.vm = u.vm) (h : zSa A u H) : zSa A U H := by
  obtain ⟨adK, adV, sf, h0, h1, h2, h3, h4, h5, h6⟩ := h
  have ha : u.vm.Alike U.vm := by rw [hv]; exact Vm.Alike.refl _
  exact ⟨adK, adV, sf, vk_S.moved ha h0, vk_R.same hv h1, vk_R.same hv h2, vk_R.same hv h3, va_Z.moved ha h4, va_Z.moved ha h5, h6⟩
theorem zSa.kept {A : Nat → Prop} {U : State} {H H1 : Heap} (h : zSa A U H) (hq : ∀ a : Nat, a < H.size → ¬ A a → H1[a]? = H[a]?) : zSa A U H1 := by
  obtain ⟨adK, adV, sf, h0, h1, h2, h3, h4, h5, h6⟩ := h
  exact ⟨adK, adV, sf, h0.kept hq, h1, h2, h3, h4.kept hq, h5.kept hq, h6⟩
/-- words that no list of the law's words holds: constructors of the nest, and what arrays of objects are made of -/
def zSw (U : State) : Prop := va_AO RX0 U ∧ va_AO RX7 U ∧ va_Nw (.methodLinkNest RX11 9 yX9_init RX11) U ∧ va_Nw (.methodLinkNest RX11 18 yX5_init RX11) U ∧ va_Nw (.methodLinkNest RX11 25 yX1_init RX11) U ∧ va_Nw (.methodLinkNest RX11 41 yX8_init RX11) U ∧ va_Nw (.methodLinkNest RX11 48 yX3_init RX11) U ∧ va_Nw (.methodLinkNest RX11 68 yX6_init RX11) U
theorem zSw.warm {u U : State} (hW : u.WarmedH U.vm) (h : zSw u) : zSw U := by
  obtain ⟨h1, h2, h3, h4, h5, h6, h7, h8⟩ := h
  exact ⟨va_AO.moved hW.alike h1, va_AO.moved hW.alike h2, va_Nw.warmM hW h3, va_Nw.warmM hW h4, va_Nw.warmM hW h5, va_Nw.warmM hW h6, va_Nw.warmM hW h7, va_Nw.warmM hW h8⟩
theorem zSw.same {u U : State} (hv : U.vm = u.vm) (h : zSw u) : zSw U := by
  have ha : u.vm.Alike U.vm := by rw [hv]; exact Vm.Alike.refl _
  obtain ⟨h1, h2, h3, h4, h5, h6, h7, h8⟩ := h
  exact ⟨va_AO.moved ha h1, va_AO.moved ha h2, va_Nw.same rfl hv.symm h3, va_Nw.same rfl hv.symm h4, va_Nw.same rfl hv.symm h5, va_Nw.same rfl hv.symm h6, va_Nw.same rfl hv.symm h7, va_Nw.same rfl hv.symm h8⟩
def zSr (A : Nat → Prop) (U : State) (H : Heap) : Prop := zSa A U H ∧ zSw U
theorem zSr.warm {A : Nat → Prop} {u U : State} {H : Heap} (hW : u.WarmedH U.vm) (h : zSr A u H) : zSr A U H := ⟨h.1.warm hW, h.2.warm hW⟩
theorem zSr.same {A : Nat → Prop} {u U : State} {H : Heap} (hv : U.vm = u.vm) (h : zSr A u H) : zSr A U H := ⟨h.1.same hv, h.2.same hv⟩
theorem zSr.kept {A : Nat → Prop} {U : State} {H H1 : Heap} (h : zSr A U H) (hq : ∀ a : Nat, a < H.size → ¬ A a → H1[a]? = H[a]?) : zSr A U H1 := ⟨h.1.kept hq, h.2⟩
def zSt (zs : Nat × Nat) (A : Nat → Prop) (U : State) (H : Heap) : Prop := va_Z RX0 "ELSE" "[I" (.ref zs.1) A U H ∧ va_T .int zs.1 11 (fun j => .int (zELSE j)) A U H ∧ va_Z RX7 "BESIDE" "[I" (.ref zs.2) A U H ∧ va_T .int zs.2 4 (fun j => .int (zBES j)) A U H ∧ zSr A U H
def zG (D : va_G) (aC : Nat → ClassId) (A : Nat → Prop) (nl : zNL) (ad : Nat → Nat → Nat → Nat) (σ : zM) (U : State) (H : Heap) : Prop := va_P D vwCl (zws aC nl ad σ) H ∧ va_D A (zws aC nl ad σ) ∧ va_K D vwCl (ztys aC) U ∧ zRf nl σ
def zH (zs : Nat × Nat) (fx : List (Nat × Nat)) (A : Nat → Prop) (nl : zNL) (U : State) : Prop := (∀ q : Nat, U.heap.size ≤ q → A q) ∧ (∀ q ∈ fx, zin nl q.1 q.2) ∧ zSt zs A U U.heap
def zP (D : va_G) (aC : Nat → ClassId) (zs : Nat × Nat) (fx : List (Nat × Nat)) (A : Nat → Prop) (nl : zNL) (ad : Nat → Nat → Nat → Nat) (σ : zM) (av : List Value) : Array Value → State → Prop := va_Pc av (fun U => zG D aC A nl ad σ U U.heap ∧ zH zs fx A nl U)
def zQ (v : Option Value) (G : State → Prop) (A : Nat → Prop) : Array Value → State → Outcome → State → Prop := fun _ st o t => o = .returned v ∧ G t ∧ va_F A st t
/-- the common facts of a walk -/
abbrev zS (p : Program) (m : MethodId) (c : Code) (cc : ByteArray) (nL : Nat) (s : State) (args : Array Value) (own : String) : Prop := CallFix p m c cc nL s args wsL_law own
theorem zinX0 : ∀ w ∈ wsX00, w ∈ wsL_law := inlX0
theorem zG_at {D : va_G} {aC : Nat → ClassId} {A : Nat → Prop} {nl : zNL} {ad : Nat → Nat → Nat → Nat} {σ : zM} {U : State} {H : Heap} (_ : zG D aC A nl ad σ U H) {q : Nat × Nat × Nat} (hq : q ∈ nl.1) : ∃ k : Nat, nl.1[k]? = some q ∧ (zws aC nl ad σ)[k]? = some (zad ad q, zcell nl aC ad σ q) := by
  obtain ⟨k, hk⟩ := List.getElem?_of_mem hq
  exact ⟨k, hk, by simp [zws, hk]⟩
theorem zws_set {D : va_G} {aC : Nat → ClassId} {A : Nat → Prop} {nl : zNL} {ad : Nat → Nat → Nat → Nat} {σ σ' : zM} (hD : va_D A (zws aC nl ad σ)) {k : Nat} {q : Nat × Nat × Nat} (hk : nl.1[k]? = some q) {e : va_E} (he : zcell nl aC ad σ' q = e) (ho : ∀ q', q' ≠ q → zcell nl aC ad σ' q' = zcell nl aC ad σ q') : (zws aC nl ad σ).set k (zad ad q, e) = zws aC nl ad σ' := by
  have hkl : k < nl.1.length := (List.getElem?_eq_some_iff.mp hk).1
  apply List.ext_getElem?
  intro j
  by_cases hj : k = j
  · subst hj
    rw [List.getElem?_set_self (by simp [zws, hkl])]
    simp [zws, hk, he]
  · rw [List.getElem?_set_ne hj]
    simp only [zws, List.getElem?_map]
    cases hb : nl.1[j]? with
    | none => rfl
    | some q' =>
      have hne : q' ≠ q := by
        intro h
        subst h
        have := hD.1 k j (zad ad q', zcell nl aC ad σ q') (zad ad q', zcell nl aC ad σ q') (by simp [zws, hk]) (by simp [zws, hb]) rfl
        exact hj this
      simp [ho q' hne]
theorem zcell_obj (nl : zNL) (aC : Nat → ClassId) (ad : Nat → Nat → Nat → Nat) (σ : zM) (c i : Nat) : zcell nl aC ad σ (c, i, 0) = .inr (c, (List.range (zN c)).map (zval nl ad σ c i)) := rfl
theorem zcell_arr (nl : zNL) (aC : Nat → ClassId) (ad : Nat → Nat → Nat → Nat) (σ : zM) (c i k : Nat) : zcell nl aC ad σ (c, i, k + 1) = zarr aC ad σ c i k := rfl
theorem zfs_at (nl : zNL) (ad : Nat → Nat → Nat → Nat) (σ : zM) (c i k : Nat) (hk : k < zN c) {v : Value} (hv : zval nl ad σ c i k = v) : ((List.range (zN c)).map (zval nl ad σ c i))[k]? = some v := by simp [hk, hv]
theorem zfs_set (nl : zNL) (ad : Nat → Nat → Nat → Nat) (σ σ' : zM) (c i k : Nat) {v : Value} (hv : zval nl ad σ' c i k = v) (ho : ∀ j, j ≠ k → zval nl ad σ' c i j = zval nl ad σ c i j) : ((List.range (zN c)).map (zval nl ad σ c i)).set k v = (List.range (zN c)).map (zval nl ad σ' c i) := by
  apply List.ext_getElem?
  intro j
  by_cases hj : k = j
  · subst hj
    by_cases hk : k < zN c
    · rw [List.getElem?_set_self (by simp [hk])]
      simp [hk, hv]
    · rw [List.getElem?_set]
      simp [hk]
  · rw [List.getElem?_set_ne hj]
    simp only [List.getElem?_map]
    cases hb : (List.range (zN c))[j]? with
    | none => rfl
    | some x =>
      have : x = j := by
        have := List.getElem?_eq_some_iff.mp hb
        obtain ⟨h1, h2⟩ := this
        simpa using h2.symm
      subst this
      simp [ho x (fun h => hj h.symm)]
theorem zu3_ne {α : Type} {f : Nat → Nat → Nat → α} {c i k c' i' k' : Nat} {v : α} (h : ¬ (c' = c ∧ i' = i ∧ k' = k)) : zu3 f c i k v c' i' k' = f c' i' k' := by simp [zu3, h]
theorem zu3_eq {α : Type} {f : Nat → Nat → Nat → α} {c i k : Nat} {v : α} : zu3 f c i k v c i k = v := by simp [zu3]
theorem zG.kept {D : va_G} {aC : Nat → ClassId} {A : Nat → Prop} {nl : zNL} {ad : Nat → Nat → Nat → Nat} {σ : zM} {u U : State} {H : Heap} (h : zG D aC A nl ad σ u H) (hvm : u.vm.Alike U.vm) : zG D aC A nl ad σ U H := ⟨h.1, h.2.1, va_K.moved hvm h.2.2.1, h.2.2.2⟩
theorem zSt.moved {zs : Nat × Nat} {A : Nat → Prop} {u U : State} {H : Heap} (hW : u.WarmedH U.vm) (h : zSt zs A u H) : zSt zs A U H := ⟨va_Z.moved hW.alike h.1, va_T.moved hW.alike h.2.1, va_Z.moved hW.alike h.2.2.1, va_T.moved hW.alike h.2.2.2.1, h.2.2.2.2.warm hW⟩
theorem zSt.same {zs : Nat × Nat} {A : Nat → Prop} {u U : State} {H : Heap} (hv : U.vm = u.vm) (h : zSt zs A u H) : zSt zs A U H := by
  have ha : u.vm.Alike U.vm := by rw [hv]; exact Vm.Alike.refl _
  exact ⟨va_Z.moved ha h.1, va_T.moved ha h.2.1, va_Z.moved ha h.2.2.1, va_T.moved ha h.2.2.2.1, h.2.2.2.2.same hv⟩
theorem zSt.kept {zs : Nat × Nat} {A : Nat → Prop} {U : State} {H H1 : Heap} (h : zSt zs A U H) (hq : ∀ a : Nat, a < H.size → ¬ A a → H1[a]? = H[a]?) : zSt zs A U H1 := ⟨va_Z.kept h.1 hq, va_T.kept h.2.1 hq, va_Z.kept h.2.2.1 hq, va_T.kept h.2.2.2.1 hq, h.2.2.2.2.kept hq⟩
theorem zP_blind {D : va_G} {aC : Nat → ClassId} {zs : Nat × Nat} {fx : List (Nat × Nat)} {A : Nat → Prop} {nl : zNL} {ad : Nat → Nat → Nat → Nat} {σ : zM} {av : List Value} : FrameBlind (zP D aC zs fx A nl ad σ av) := by
  intro a U g mk h
  obtain ⟨h0, h1, h2, h3, h4⟩ := h
  exact ⟨h0, h1.kept (U := U.calling g mk a) (Vm.Alike.refl U.vm), h2, h3, zSt.same (u := U) (U := U.calling g mk a) rfl h4⟩
theorem zP_of {D : va_G} {aC : Nat → ClassId} {zs : Nat × Nat} {fx : List (Nat × Nat)} {A : Nat → Prop} {nl nl0 : zNL} {ad : Nat → Nat → Nat → Nat} {σ : zM} {av : List Value} {s U : State} {H : Heap} {locs : List Loc} (hG : zG D aC A nl ad σ s H) (hZ : zH zs fx A nl0 s) (hn : ∀ c i, zin nl0 c i → zin nl c i) (hS : va_S A s.heap H locs) (hU : U.heap = H) (hW : s.WarmedH U.vm) : zP D aC zs fx A nl ad σ av av.toArray U := by
  refine ⟨rfl, ?_, ?_, ?_, ?_⟩
  · rw [hU]; exact hG.kept hW.alike
  · intro q h
    rw [hU] at h
    exact hZ.1 q (Nat.le_trans hS.1 h)
  · intro q hq
    exact hn _ _ (hZ.2.1 q hq)
  · rw [hU]
    exact (hZ.2.2.moved hW).kept hS.2.1
theorem zGV {own C : String} {index maxL : Nat} {y : MethodName} {bytes : ByteArray} {ret : Option FieldType} (w1 : Cond.methodLink own index y ∈ wsL_law) (w2 : Cond.instanceMethod y ∈ wsL_law) (w3 : Cond.selects C y y ∈ wsL_law) (w4 : Cond.initialized C ∈ wsL_law) (w5 : Cond.code y bytes maxL ret ∈ wsL_law) : GoodIn wsL_law (wsV own index C y (Cond.code y bytes maxL ret :: wsL_law)) := by
  have h : ∀ w ∈ wsV own index C y (Cond.code y bytes maxL ret :: wsL_law), w ∈ wsL_law := by
    intro w hw
    simp only [wsV, List.cons_append, List.nil_append, List.mem_cons] at hw
    rcases hw with h | h | h | h | h | h
    · rw [h]; exact w1
    · rw [h]; exact w2
    · rw [h]; exact w3
    · rw [h]; exact w4
    · rw [h]; exact w5
    · exact h
  exact fun w hw => zB_in w (h w hw)
theorem zGS {own : String} {index maxL : Nat} {y : MethodName} {bytes : ByteArray} {ret : Option FieldType} (w1 : Cond.methodLink own index y ∈ wsL_law) (w2 : Cond.static y ∈ wsL_law) (w4 : Cond.initialized y.cls ∈ wsL_law) (w5 : Cond.code y bytes maxL ret ∈ wsL_law) : GoodIn wsL_law (va_wsS own index y (Cond.code y bytes maxL ret :: wsL_law)) := by
  have h : ∀ w ∈ va_wsS own index y (Cond.code y bytes maxL ret :: wsL_law), w ∈ wsL_law := by
    intro w hw
    simp only [va_wsS, List.cons_append, List.nil_append, List.mem_cons] at hw
    rcases hw with h | h | h | h | h
    · rw [h]; exact w1
    · rw [h]; exact w2
    · rw [h]; exact w4
    · rw [h]; exact w5
    · exact h
  exact fun w hw => zB_in w (h w hw)
section ZROWS
variable {p : Program} {l : Launch} {e : Env} {R : Room} {s : State} {m : MethodId} {args : Array Value} {below : List Frame} {meth : Method} {c : Code} {H : Heap} {locs : List Loc} {cells slots : Nat} {Q : State → Prop}
variable {cc : ByteArray} {nL pc : Nat} {ls : Array Slot} {rest : List Value} {D : va_G} {A : Nat → Prop} {aC : Nat → ClassId} {nl : zNL} {ad : Nat → Nat → Nat → Nat} {σ : zM} {H0 : Heap} {own : String}
theorem z_get (S : zS p m c cc nL s args own) (hG : zG D aC A nl ad σ s H) {c0 i0 k0 index : Nat} {C : String} {T : u_T} (hn : zin nl c0 i0) (hc : vwCl[c0]? = some (C, T, zN c0)) (hin : ∀ w ∈ u_ws C T (zN c0), w ∈ wsL_law) (hk : k0 < zN c0) (hT : (T k0).1 = C) (hlink : Cond.fieldLink own index C (T k0).2.1 (T k0).2.2.1 ∈ wsL_law) {v : Value} (hv : zval0 ad σ c0 i0 k0 = v) (hdg : decode cc pc = .ok (.getfield index, 3))
    (kk : W p l e R s m args below meth c H locs cells slots Q (F0 m (pc + 3) ls (v :: rest))) : W p l e R s m args below meth c H locs cells slots Q (F0 m pc ls (.ref (ad c0 i0 0) :: rest)) := by
  obtain ⟨hx, hb, -, hown, hts⟩ := S
  obtain ⟨q0, -, hq⟩ := zG_at hG hn.1
  exact va_get hx hb hts hin hown hG.2.2.1 hG.1 q0 hq hc k0 hk (hts _ hlink) (fun _ h => by rw [hT] at h; exact h) (zfs_at nl ad σ c0 i0 k0 hk (by rw [zval, if_neg (hn.2.2 k0)]; exact hv)) hdg kk
theorem z_put (S : zS p m c cc nL s args own) (hG : zG D aC A nl ad σ s H) (hS : va_S A H0 H locs) {c0 i0 k0 index : Nat} {C : String} {T : u_T} (ty0 : Nat → FieldType) (hty : ∀ k, k < zN c0 → parseFieldDescriptor (T k).2.2.1 = some (ty0 k)) (hnm : ∀ a, a < zN c0 → ∀ b, b < zN c0 → a ≠ b → (T a).2.1 ≠ (T b).2.1) (hn : zin nl c0 i0) (hc : vwCl[c0]? = some (C, T, zN c0)) (hin : ∀ w ∈ u_ws C T (zN c0), w ∈ wsL_law) (hk : k0 < zN c0) (hT : (T k0).1 = C) (hfin : (T k0).2.2.2 = false) (hlink : Cond.fieldLink own index C (T k0).2.1 (T k0).2.2.1 ∈ wsL_law) {ty : FieldType} {v : Value} (hd : parseFieldDescriptor (T k0).2.2.1 = some ty) (hna : narrow ty v = v) (hfit : fits ty v = true) {σ' : zM} (hv : zval nl ad σ' c0 i0 k0 = v) (ho : ∀ j, j ≠ k0 → zval nl ad σ' c0 i0 j = zval nl ad σ c0 i0 j) (hoo : ∀ q', q' ≠ (c0, i0, 0) → zcell nl aC ad σ' q' = zcell nl aC ad σ q') (hRf : zRf nl σ') (hdg : decode cc pc = .ok (.putfield index, 3))
    (kk : ∀ (H1 : Heap) (locs1 : List Loc), zG D aC A nl ad σ' s H1 → va_S A H0 H1 locs1 → W p l e R s m args below meth c H1 locs1 cells slots Q (F0 m (pc + 3) ls rest)) : W p l e R s m args below meth c H locs cells slots Q (F0 m pc ls (v :: .ref (ad c0 i0 0) :: rest)) := by
  obtain ⟨hx, hb, -, hown, hts⟩ := S
  obtain ⟨q0, hq0, hq⟩ := zG_at hG hn.1
  refine va_put hx hb hts hin ty0 hty hnm hown hG.2.2.1 hG.1 hG.2.1 hS q0 hq hc k0 hk (hts _ hlink) (fun _ h => by rw [hT] at h; exact h) hfin hd hna hfit (by simp [hk]) hdg (fun H1 locs1 hP1 hD1 hS1 => ?_)
  have hset : (zws aC nl ad σ).set q0 (zad ad (c0, i0, 0), .inr (c0, ((List.range (zN c0)).map (zval nl ad σ c0 i0)).set k0 v)) = zws aC nl ad σ' := by
    refine zws_set (D := D) hG.2.1 hq0 ?_ hoo
    rw [zcell_obj, zfs_set nl ad σ σ' c0 i0 k0 hv ho]
  exact kk H1 locs1 ⟨by rw [← hset]; exact hP1, by rw [← hset]; exact hD1, hG.2.2.1, hRf⟩ hS1
/-- a change of the memory that one object's field, or one array, is told of -/
theorem zcell_I (nl : zNL) (aC : Nat → ClassId) (ad : Nat → Nat → Nat → Nat) (σ : zM) (c0 i0 k0 : Nat) (v : Int32) (q : Nat × Nat × Nat) (hq : q ≠ (c0, i0, 0)) : zcell nl aC ad (zsI σ c0 i0 k0 v) q = zcell nl aC ad σ q := by
  obtain ⟨a, b, k⟩ := q
  cases k with
  | succ k => rfl
  | zero =>
    rw [zcell_obj, zcell_obj]
    congr 2
    refine List.map_congr_left fun j _ => ?_
    have h : ¬ (a = c0 ∧ b = i0 ∧ j = k0) := fun h => hq (by rw [h.1, h.2.1])
    have h0 : zval0 ad (zsI σ c0 i0 k0 v) a b j = zval0 ad σ a b j := by
      unfold zval0
      split <;> first | rfl | (simp only [zI, zsI, zu3_ne h])
    unfold zval
    rw [h0]
theorem zval_I (nl : zNL) (ad : Nat → Nat → Nat → Nat) (σ : zM) (c0 i0 k0 : Nat) (v : Int32) (j : Nat) (hj : j ≠ k0) : zval nl ad (zsI σ c0 i0 k0 v) c0 i0 j = zval nl ad σ c0 i0 j := by
  have h : ¬ (c0 = c0 ∧ i0 = i0 ∧ j = k0) := fun h => hj h.2.2
  have h0 : zval0 ad (zsI σ c0 i0 k0 v) c0 i0 j = zval0 ad σ c0 i0 j := by
    unfold zval0
    split <;> first | rfl | (simp only [zI, zsI, zu3_ne h])
  unfold zval
  rw [h0]
theorem zval_I' (nl : zNL) (ad : Nat → Nat → Nat → Nat) (σ : zM) (c0 i0 k0 : Nat) (v : Int32) (hk : zkd c0 k0 = 0) (hnn : (c0, i0, k0) ∉ nl.2) : zval nl ad (zsI σ c0 i0 k0 v) c0 i0 k0 = .int v := by
  rw [zval, if_neg hnn]
  unfold zval0
  rw [hk]
  simp only [zI, zsI, zu3_eq]
theorem zcell_J (nl : zNL) (aC : Nat → ClassId) (ad : Nat → Nat → Nat → Nat) (σ : zM) (c0 i0 k0 : Nat) (v : Int64) (q : Nat × Nat × Nat) (hq : q ≠ (c0, i0, 0)) : zcell nl aC ad (zsJ σ c0 i0 k0 v) q = zcell nl aC ad σ q := by
  obtain ⟨a, b, k⟩ := q
  cases k with
  | succ k => rfl
  | zero =>
    rw [zcell_obj, zcell_obj]
    congr 2
    refine List.map_congr_left fun j _ => ?_
    have h : ¬ (a = c0 ∧ b = i0 ∧ j = k0) := fun h => hq (by rw [h.1, h.2.1])
    have h0 : zval0 ad (zsJ σ c0 i0 k0 v) a b j = zval0 ad σ a b j := by
      unfold zval0
      split <;> first | rfl | (simp only [zJ, zsJ, zu3_ne h])
    unfold zval
    rw [h0]
theorem zval_J (nl : zNL) (ad : Nat → Nat → Nat → Nat) (σ : zM) (c0 i0 k0 : Nat) (v : Int64) (j : Nat) (hj : j ≠ k0) : zval nl ad (zsJ σ c0 i0 k0 v) c0 i0 j = zval nl ad σ c0 i0 j := by
  have h : ¬ (c0 = c0 ∧ i0 = i0 ∧ j = k0) := fun h => hj h.2.2
  have h0 : zval0 ad (zsJ σ c0 i0 k0 v) c0 i0 j = zval0 ad σ c0 i0 j := by
    unfold zval0
    split <;> first | rfl | (simp only [zJ, zsJ, zu3_ne h])
  unfold zval
  rw [h0]
theorem zval_J' (nl : zNL) (ad : Nat → Nat → Nat → Nat) (σ : zM) (c0 i0 k0 : Nat) (v : Int64) (hk : zkd c0 k0 = 1) (hnn : (c0, i0, k0) ∉ nl.2) : zval nl ad (zsJ σ c0 i0 k0 v) c0 i0 k0 = .long v := by
  rw [zval, if_neg hnn]
  unfold zval0
  rw [hk]
  simp only [zJ, zsJ, zu3_eq]
theorem zcell_R (nl : zNL) (aC : Nat → ClassId) (ad : Nat → Nat → Nat → Nat) (σ : zM) (c0 i0 k0 : Nat) (v : Option Nat) (q : Nat × Nat × Nat) (hq : q ≠ (c0, i0, 0)) : zcell nl aC ad (zsR σ c0 i0 k0 v) q = zcell nl aC ad σ q := by
  obtain ⟨a, b, k⟩ := q
  cases k with
  | succ k => rfl
  | zero =>
    rw [zcell_obj, zcell_obj]
    congr 2
    refine List.map_congr_left fun j _ => ?_
    have h : ¬ (a = c0 ∧ b = i0 ∧ j = k0) := fun h => hq (by rw [h.1, h.2.1])
    have h0 : zval0 ad (zsR σ c0 i0 k0 v) a b j = zval0 ad σ a b j := by
      unfold zval0
      split <;> first | rfl | (simp only [zR, zsR, zu3_ne h])
    unfold zval
    rw [h0]
theorem zval_R (nl : zNL) (ad : Nat → Nat → Nat → Nat) (σ : zM) (c0 i0 k0 : Nat) (v : Option Nat) (j : Nat) (hj : j ≠ k0) : zval nl ad (zsR σ c0 i0 k0 v) c0 i0 j = zval nl ad σ c0 i0 j := by
  have h : ¬ (c0 = c0 ∧ i0 = i0 ∧ j = k0) := fun h => hj h.2.2
  have h0 : zval0 ad (zsR σ c0 i0 k0 v) c0 i0 j = zval0 ad σ c0 i0 j := by
    unfold zval0
    split <;> first | rfl | (simp only [zR, zsR, zu3_ne h])
  unfold zval
  rw [h0]
theorem zval_R' (nl : zNL) (ad : Nat → Nat → Nat → Nat) (σ : zM) (c0 i0 k0 : Nat) (v : Option Nat) (hk : zkd c0 k0 = 2) (hnn : (c0, i0, k0) ∉ nl.2) : zval nl ad (zsR σ c0 i0 k0 v) c0 i0 k0 = va_rf (v.map fun j => ad (zto c0 k0) j 0) := by
  rw [zval, if_neg hnn]
  unfold zval0
  rw [hk]
  simp only [zR, zsR, zu3_eq]
theorem zRf_R {nl : zNL} {σ : zM} (h : zRf nl σ) (c0 i0 k0 : Nat) (v : Option Nat) (hv : ∀ j, v = some j → zin nl (zto c0 k0) j) : zRf nl (zsR σ c0 i0 k0 v) := by
  refine ⟨fun c i k j h2 hj => ?_, h.2.1, h.2.2⟩
  by_cases hc : c = c0 ∧ i = i0 ∧ k = k0
  · obtain ⟨rfl, rfl, rfl⟩ := hc
    simp only [zR, zsR, zu3_eq] at hj
    exact hv j hj
  · simp only [zR, zsR, zu3_ne hc] at hj
    exact h.1 c i k j h2 hj
theorem z_putI (S : zS p m c cc nL s args own) (hG : zG D aC A nl ad σ s H) (hS : va_S A H0 H locs) {c0 i0 k0 index : Nat} {C : String} {T : u_T} (ty0 : Nat → FieldType) (hty : ∀ k, k < zN c0 → parseFieldDescriptor (T k).2.2.1 = some (ty0 k)) (hnm : ∀ a, a < zN c0 → ∀ b, b < zN c0 → a ≠ b → (T a).2.1 ≠ (T b).2.1) (hn : zin nl c0 i0) (hc : vwCl[c0]? = some (C, T, zN c0)) (hin : ∀ w ∈ u_ws C T (zN c0), w ∈ wsL_law) (hk : k0 < zN c0) (hT : (T k0).1 = C) (hfin : (T k0).2.2.2 = false) (hlink : Cond.fieldLink own index C (T k0).2.1 (T k0).2.2.1 ∈ wsL_law) {x : Int32} (hd : parseFieldDescriptor (T k0).2.2.1 = some .int) (hkd : zkd c0 k0 = 0) (hdg : decode cc pc = .ok (.putfield index, 3))
    (kk : ∀ (H1 : Heap) (locs1 : List Loc), zG D aC A nl ad (zsI σ c0 i0 k0 x) s H1 → va_S A H0 H1 locs1 → W p l e R s m args below meth c H1 locs1 cells slots Q (F0 m (pc + 3) ls rest)) : W p l e R s m args below meth c H locs cells slots Q (F0 m pc ls (.int x :: .ref (ad c0 i0 0) :: rest)) :=
  z_put S hG hS ty0 hty hnm hn hc hin hk hT hfin hlink hd rfl rfl (zval_I' nl ad σ c0 i0 k0 x hkd (hn.2.2 k0)) (fun j hj => zval_I nl ad σ c0 i0 k0 x j hj) (fun q hq => zcell_I nl aC ad σ c0 i0 k0 x q hq) hG.2.2.2 hdg kk
theorem z_putJ (S : zS p m c cc nL s args own) (hG : zG D aC A nl ad σ s H) (hS : va_S A H0 H locs) {c0 i0 k0 index : Nat} {C : String} {T : u_T} (ty0 : Nat → FieldType) (hty : ∀ k, k < zN c0 → parseFieldDescriptor (T k).2.2.1 = some (ty0 k)) (hnm : ∀ a, a < zN c0 → ∀ b, b < zN c0 → a ≠ b → (T a).2.1 ≠ (T b).2.1) (hn : zin nl c0 i0) (hc : vwCl[c0]? = some (C, T, zN c0)) (hin : ∀ w ∈ u_ws C T (zN c0), w ∈ wsL_law) (hk : k0 < zN c0) (hT : (T k0).1 = C) (hfin : (T k0).2.2.2 = false) (hlink : Cond.fieldLink own index C (T k0).2.1 (T k0).2.2.1 ∈ wsL_law) {x : Int64} (hd : parseFieldDescriptor (T k0).2.2.1 = some .long) (hkd : zkd c0 k0 = 1) (hdg : decode cc pc = .ok (.putfield index, 3))
    (kk : ∀ (H1 : Heap) (locs1 : List Loc), zG D aC A nl ad (zsJ σ c0 i0 k0 x) s H1 → va_S A H0 H1 locs1 → W p l e R s m args below meth c H1 locs1 cells slots Q (F0 m (pc + 3) ls rest)) : W p l e R s m args below meth c H locs cells slots Q (F0 m pc ls (.long x :: .ref (ad c0 i0 0) :: rest)) :=
  z_put S hG hS ty0 hty hnm hn hc hin hk hT hfin hlink hd rfl rfl (zval_J' nl ad σ c0 i0 k0 x hkd (hn.2.2 k0)) (fun j hj => zval_J nl ad σ c0 i0 k0 x j hj) (fun q hq => zcell_J nl aC ad σ c0 i0 k0 x q hq) hG.2.2.2 hdg kk
theorem z_putR (S : zS p m c cc nL s args own) (hG : zG D aC A nl ad σ s H) (hS : va_S A H0 H locs) {c0 i0 k0 index : Nat} {C : String} {T : u_T} (ty0 : Nat → FieldType) (hty : ∀ k, k < zN c0 → parseFieldDescriptor (T k).2.2.1 = some (ty0 k)) (hnm : ∀ a, a < zN c0 → ∀ b, b < zN c0 → a ≠ b → (T a).2.1 ≠ (T b).2.1) (hn : zin nl c0 i0) (hc : vwCl[c0]? = some (C, T, zN c0)) (hin : ∀ w ∈ u_ws C T (zN c0), w ∈ wsL_law) (hk : k0 < zN c0) (hT : (T k0).1 = C) (hfin : (T k0).2.2.2 = false) (hlink : Cond.fieldLink own index C (T k0).2.1 (T k0).2.2.1 ∈ wsL_law) {x : Option Nat} {v : Value} (hvv : va_rf (x.map fun j => ad (zto c0 k0) j 0) = v) {cn : String} (hd : parseFieldDescriptor (T k0).2.2.1 = some (.object cn)) (hkd : zkd c0 k0 = 2) (hx : ∀ j, x = some j → zin nl (zto c0 k0) j) (hdg : decode cc pc = .ok (.putfield index, 3))
    (kk : ∀ (H1 : Heap) (locs1 : List Loc), zG D aC A nl ad (zsR σ c0 i0 k0 x) s H1 → va_S A H0 H1 locs1 → W p l e R s m args below meth c H1 locs1 cells slots Q (F0 m (pc + 3) ls rest)) : W p l e R s m args below meth c H locs cells slots Q (F0 m pc ls (v :: .ref (ad c0 i0 0) :: rest)) := by
  subst hvv
  exact z_put S hG hS ty0 hty hnm hn hc hin hk hT hfin hlink hd (by cases x <;> rfl) (by cases x <;> rfl) (zval_R' nl ad σ c0 i0 k0 x hkd (hn.2.2 k0)) (fun j hj => zval_R nl ad σ c0 i0 k0 x j hj) (fun q hq => zcell_R nl aC ad σ c0 i0 k0 x q hq) (zRf_R hG.2.2.2 c0 i0 k0 x hx) hdg kk
theorem z_putZ (S : zS p m c cc nL s args own) (hG : zG D aC A nl ad σ s H) (hS : va_S A H0 H locs) {c0 i0 k0 index : Nat} {C : String} {T : u_T} (ty0 : Nat → FieldType) (hty : ∀ k, k < zN c0 → parseFieldDescriptor (T k).2.2.1 = some (ty0 k)) (hnm : ∀ a, a < zN c0 → ∀ b, b < zN c0 → a ≠ b → (T a).2.1 ≠ (T b).2.1) (hn : zin nl c0 i0) (hc : vwCl[c0]? = some (C, T, zN c0)) (hin : ∀ w ∈ u_ws C T (zN c0), w ∈ wsL_law) (hk : k0 < zN c0) (hT : (T k0).1 = C) (hfin : (T k0).2.2.2 = false) (hlink : Cond.fieldLink own index C (T k0).2.1 (T k0).2.2.1 ∈ wsL_law) {x : Int32} (hd : parseFieldDescriptor (T k0).2.2.1 = some .boolean) (hx : narrow .boolean (.int x) = .int x) (hx2 : fits .boolean (.int x) = true) (hkd : zkd c0 k0 = 0) (hdg : decode cc pc = .ok (.putfield index, 3))
    (kk : ∀ (H1 : Heap) (locs1 : List Loc), zG D aC A nl ad (zsI σ c0 i0 k0 x) s H1 → va_S A H0 H1 locs1 → W p l e R s m args below meth c H1 locs1 cells slots Q (F0 m (pc + 3) ls rest)) : W p l e R s m args below meth c H locs cells slots Q (F0 m pc ls (.int x :: .ref (ad c0 i0 0) :: rest)) :=
  z_put S hG hS ty0 hty hnm hn hc hin hk hT hfin hlink hd hx hx2 (zval_I' nl ad σ c0 i0 k0 x hkd (hn.2.2 k0)) (fun j hj => zval_I nl ad σ c0 i0 k0 x j hj) (fun q hq => zcell_I nl aC ad σ c0 i0 k0 x q hq) hG.2.2.2 hdg kk
/-! arrays -/
theorem zarr_i {aC : Nat → ClassId} {ad : Nat → Nat → Nat → Nat} {σ : zM} {c i k n : Nat} (hk : zkd c k = n) (h : n = 4 ∨ n = 5 ∨ n = 6) : zarr aC ad σ c i k = .inl (aC n, zln c i k, .inl (zA σ c i k)) := by
  unfold zarr
  rcases h with rfl | rfl | rfl <;> rw [hk] <;> rfl
theorem zarr_l {aC : Nat → ClassId} {ad : Nat → Nat → Nat → Nat} {σ : zM} {c i k : Nat} (hk : zkd c k = 7) : zarr aC ad σ c i k = .inl (aC 7, zln c i k, .inr (.inl (zL σ c i k))) := by
  unfold zarr
  rw [hk]
  try rfl
theorem zarr_8 {aC : Nat → ClassId} {ad : Nat → Nat → Nat → Nat} {σ : zM} {c i k : Nat} (hk : zkd c k = 8) : zarr aC ad σ c i k = .inl (aC 8, zln c i k, .inr (.inr (.inr (.inr (fun j => (zO σ c i k j).map fun x => ad 7 x 0))))) := by
  unfold zarr
  rw [hk]
  try rfl
theorem zarr_9 {aC : Nat → ClassId} {ad : Nat → Nat → Nat → Nat} {σ : zM} {c i k : Nat} (hk : zkd c k = 9) : zarr aC ad σ c i k = .inl (aC 9, zln c i k, .inr (.inr (.inr (.inr (fun j => (zO σ c i k j).map fun x => ad 0 x 0))))) := by
  unfold zarr
  rw [hk]
  try rfl
theorem zcell_A (nl : zNL) (aC : Nat → ClassId) (ad : Nat → Nat → Nat → Nat) (σ : zM) (c0 i0 k0 j0 : Nat) (v : Int32) (q : Nat × Nat × Nat) (hq : q ≠ (c0, i0, k0 + 1)) : zcell nl aC ad (zsA σ c0 i0 k0 j0 v) q = zcell nl aC ad σ q := by
  obtain ⟨a, b, k⟩ := q
  cases k with
  | zero => rfl
  | succ k =>
    rw [zcell_arr, zcell_arr]
    have h : ¬ (a = c0 ∧ b = i0 ∧ k = k0) := fun h => hq (by rw [h.1, h.2.1, h.2.2])
    unfold zarr
    split <;> first | rfl | (simp only [zA, zsA, zu3_ne h])
theorem zcell_L (nl : zNL) (aC : Nat → ClassId) (ad : Nat → Nat → Nat → Nat) (σ : zM) (c0 i0 k0 j0 : Nat) (v : Int64) (q : Nat × Nat × Nat) (hq : q ≠ (c0, i0, k0 + 1)) : zcell nl aC ad (zsL σ c0 i0 k0 j0 v) q = zcell nl aC ad σ q := by
  obtain ⟨a, b, k⟩ := q
  cases k with
  | zero => rfl
  | succ k =>
    rw [zcell_arr, zcell_arr]
    have h : ¬ (a = c0 ∧ b = i0 ∧ k = k0) := fun h => hq (by rw [h.1, h.2.1, h.2.2])
    unfold zarr
    split <;> first | rfl | (simp only [zL, zsL, zu3_ne h])
theorem zcell_O (nl : zNL) (aC : Nat → ClassId) (ad : Nat → Nat → Nat → Nat) (σ : zM) (c0 i0 k0 j0 : Nat) (v : Option Nat) (q : Nat × Nat × Nat) (hq : q ≠ (c0, i0, k0 + 1)) : zcell nl aC ad (zsO σ c0 i0 k0 j0 v) q = zcell nl aC ad σ q := by
  obtain ⟨a, b, k⟩ := q
  cases k with
  | zero => rfl
  | succ k =>
    rw [zcell_arr, zcell_arr]
    have h : ¬ (a = c0 ∧ b = i0 ∧ k = k0) := fun h => hq (by rw [h.1, h.2.1, h.2.2])
    unfold zarr
    split <;> first | rfl | (simp only [zO, zsO, zu3_ne h])
theorem z_alen (S : zS p m c cc nL s args own) (hG : zG D aC A nl ad σ s H) {c0 i0 k0 n : Nat} (hn : zin nl c0 i0) (hk : k0 < zN c0) (hkd : zkd c0 k0 = n) (h4 : n = 4 ∨ n = 5 ∨ n = 6 ∨ n = 7 ∨ n = 8 ∨ n = 9) {v : Int32} (hv : Int32.ofNat (zln c0 i0 k0) = v) (hdg : decode cc pc = .ok (.arraylength, 1))
    (kk : W p l e R s m args below meth c H locs cells slots Q (F0 m (pc + 1) ls (.int v :: rest))) : W p l e R s m args below meth c H locs cells slots Q (F0 m pc ls (.ref (ad c0 i0 (k0 + 1)) :: rest)) := by
  obtain ⟨hx, hb, -, hown, hts⟩ := S
  obtain ⟨q0, -, hq⟩ := zG_at hG (hn.2.1 k0 hk (by omega))
  rw [zcell_arr] at hq
  rcases h4 with rfl | rfl | rfl | rfl | rfl | rfl
  · rw [zarr_i hkd (Or.inl rfl)] at hq
    exact va_alen hx hb hG.2.2.1 hG.1 q0 0 hq rfl hv hdg kk
  · rw [zarr_i hkd (Or.inr (Or.inl rfl))] at hq
    exact va_alen hx hb hG.2.2.1 hG.1 q0 1 hq rfl hv hdg kk
  · rw [zarr_i hkd (Or.inr (Or.inr rfl))] at hq
    exact va_alen hx hb hG.2.2.1 hG.1 q0 2 hq rfl hv hdg kk
  · rw [zarr_l hkd] at hq
    exact va_alen hx hb hG.2.2.1 hG.1 q0 3 hq rfl hv hdg kk
  · rw [zarr_8 hkd] at hq
    exact va_alen hx hb hG.2.2.1 hG.1 q0 4 hq rfl hv hdg kk
  · rw [zarr_9 hkd] at hq
    exact va_alen hx hb hG.2.2.1 hG.1 q0 5 hq rfl hv hdg kk
theorem z_iald (S : zS p m c cc nL s args own) (hG : zG D aC A nl ad σ s H) {c0 i0 k0 : Nat} (hn : zin nl c0 i0) (hk : k0 < zN c0) (hkd : zkd c0 k0 = 4) {i : Int32} {j : Nat} (hj : zix i (zln c0 i0 k0) = some j) (hdg : decode cc pc = .ok (.iaload, 1))
    (kk : W p l e R s m args below meth c H locs cells slots Q (F0 m (pc + 1) ls (.int (zA σ c0 i0 k0 j) :: rest))) : W p l e R s m args below meth c H locs cells slots Q (F0 m pc ls (.int i :: .ref (ad c0 i0 (k0 + 1)) :: rest)) := by
  obtain ⟨hx, hb, -, hown, hts⟩ := S
  obtain ⟨q0, -, hq⟩ := zG_at hG (hn.2.1 k0 hk (by omega))
  obtain ⟨h1, rfl⟩ := zix_s hj
  rw [zcell_arr, zarr_i hkd (Or.inl rfl)] at hq
  exact va_iald hx hb hG.2.2.1 hG.1 q0 0 hq rfl h1 hdg kk
theorem z_bald (S : zS p m c cc nL s args own) (hG : zG D aC A nl ad σ s H) {c0 i0 k0 : Nat} (hn : zin nl c0 i0) (hk : k0 < zN c0) (hkd : zkd c0 k0 = 5) {i : Int32} {j : Nat} (hj : zix i (zln c0 i0 k0) = some j) (hdg : decode cc pc = .ok (.baload, 1))
    (kk : W p l e R s m args below meth c H locs cells slots Q (F0 m (pc + 1) ls (.int (zA σ c0 i0 k0 j) :: rest))) : W p l e R s m args below meth c H locs cells slots Q (F0 m pc ls (.int i :: .ref (ad c0 i0 (k0 + 1)) :: rest)) := by
  obtain ⟨hx, hb, -, hown, hts⟩ := S
  obtain ⟨q0, -, hq⟩ := zG_at hG (hn.2.1 k0 hk (by omega))
  obtain ⟨h1, rfl⟩ := zix_s hj
  rw [zcell_arr, zarr_i hkd (Or.inr (Or.inl rfl))] at hq
  exact va_bald hx hb hG.2.2.1 hG.1 q0 1 hq rfl h1 hdg kk
theorem z_zald (S : zS p m c cc nL s args own) (hG : zG D aC A nl ad σ s H) {c0 i0 k0 : Nat} (hn : zin nl c0 i0) (hk : k0 < zN c0) (hkd : zkd c0 k0 = 6) {i : Int32} {j : Nat} (hj : zix i (zln c0 i0 k0) = some j) (hdg : decode cc pc = .ok (.baload, 1))
    (kk : W p l e R s m args below meth c H locs cells slots Q (F0 m (pc + 1) ls (.int (zA σ c0 i0 k0 j) :: rest))) : W p l e R s m args below meth c H locs cells slots Q (F0 m pc ls (.int i :: .ref (ad c0 i0 (k0 + 1)) :: rest)) := by
  obtain ⟨hx, hb, -, hown, hts⟩ := S
  obtain ⟨q0, -, hq⟩ := zG_at hG (hn.2.1 k0 hk (by omega))
  obtain ⟨h1, rfl⟩ := zix_s hj
  rw [zcell_arr, zarr_i hkd (Or.inr (Or.inr rfl))] at hq
  exact va_zald hx hb hG.2.2.1 hG.1 q0 2 hq rfl h1 hdg kk
theorem z_lald (S : zS p m c cc nL s args own) (hG : zG D aC A nl ad σ s H) {c0 i0 k0 : Nat} (hn : zin nl c0 i0) (hk : k0 < zN c0) (hkd : zkd c0 k0 = 7) {i : Int32} {j : Nat} (hj : zix i (zln c0 i0 k0) = some j) (hdg : decode cc pc = .ok (.laload, 1))
    (kk : W p l e R s m args below meth c H locs cells slots Q (F0 m (pc + 1) ls (.long (zL σ c0 i0 k0 j) :: rest))) : W p l e R s m args below meth c H locs cells slots Q (F0 m pc ls (.int i :: .ref (ad c0 i0 (k0 + 1)) :: rest)) := by
  obtain ⟨hx, hb, -, hown, hts⟩ := S
  obtain ⟨q0, -, hq⟩ := zG_at hG (hn.2.1 k0 hk (by omega))
  obtain ⟨h1, rfl⟩ := zix_s hj
  rw [zcell_arr, zarr_l hkd] at hq
  exact va_lald hx hb hG.2.2.1 hG.1 q0 3 hq rfl h1 hdg kk
theorem z_aald8 (S : zS p m c cc nL s args own) (hG : zG D aC A nl ad σ s H) {c0 i0 k0 : Nat} (hn : zin nl c0 i0) (hk : k0 < zN c0) (hkd : zkd c0 k0 = 8) {i : Int32} {j : Nat} (hj : zix i (zln c0 i0 k0) = some j) (hdg : decode cc pc = .ok (.aaload, 1))
    (kk : (∀ x, zO σ c0 i0 k0 j = some x → zin nl 7 x) → W p l e R s m args below meth c H locs cells slots Q (F0 m (pc + 1) ls (va_rf ((zO σ c0 i0 k0 j).map fun x => ad 7 x 0) :: rest))) : W p l e R s m args below meth c H locs cells slots Q (F0 m pc ls (.int i :: .ref (ad c0 i0 (k0 + 1)) :: rest)) := by
  obtain ⟨hx, hb, -, hown, hts⟩ := S
  obtain ⟨q0, -, hq⟩ := zG_at hG (hn.2.1 k0 hk (by omega))
  obtain ⟨h1, rfl⟩ := zix_s hj
  rw [zcell_arr, zarr_8 hkd] at hq
  exact va_aldq hx hb hG.2.2.1 hG.1 q0 4 hq rfl h1 hdg (kk fun x h => hG.2.2.2.2.1 c0 i0 k0 _ x hkd h)
theorem z_aald9 (S : zS p m c cc nL s args own) (hG : zG D aC A nl ad σ s H) {c0 i0 k0 : Nat} (hn : zin nl c0 i0) (hk : k0 < zN c0) (hkd : zkd c0 k0 = 9) {i : Int32} {j : Nat} (hj : zix i (zln c0 i0 k0) = some j) (hdg : decode cc pc = .ok (.aaload, 1))
    (kk : (∀ x, zO σ c0 i0 k0 j = some x → zin nl 0 x) → W p l e R s m args below meth c H locs cells slots Q (F0 m (pc + 1) ls (va_rf ((zO σ c0 i0 k0 j).map fun x => ad 0 x 0) :: rest))) : W p l e R s m args below meth c H locs cells slots Q (F0 m pc ls (.int i :: .ref (ad c0 i0 (k0 + 1)) :: rest)) := by
  obtain ⟨hx, hb, -, hown, hts⟩ := S
  obtain ⟨q0, -, hq⟩ := zG_at hG (hn.2.1 k0 hk (by omega))
  obtain ⟨h1, rfl⟩ := zix_s hj
  rw [zcell_arr, zarr_9 hkd] at hq
  exact va_aldq hx hb hG.2.2.1 hG.1 q0 5 hq rfl h1 hdg (kk fun x h => hG.2.2.2.2.2 c0 i0 k0 _ x hkd h)
theorem z_iast (S : zS p m c cc nL s args own) (hG : zG D aC A nl ad σ s H) (hS : va_S A H0 H locs) {c0 i0 k0 : Nat} (hn : zin nl c0 i0) (hk : k0 < zN c0) (hkd : zkd c0 k0 = 4) {i x : Int32} {j : Nat} (hj : zix i (zln c0 i0 k0) = some j) (hdg : decode cc pc = .ok (.iastore, 1))
    (kk : ∀ (H1 : Heap) (locs1 : List Loc), zG D aC A nl ad (zsA σ c0 i0 k0 j x) s H1 → va_S A H0 H1 locs1 → W p l e R s m args below meth c H1 locs1 cells slots Q (F0 m (pc + 1) ls rest)) : W p l e R s m args below meth c H locs cells slots Q (F0 m pc ls (.int x :: .int i :: .ref (ad c0 i0 (k0 + 1)) :: rest)) := by
  obtain ⟨hx, hb, -, hown, hts⟩ := S
  obtain ⟨q0, hq0, hq⟩ := zG_at hG (hn.2.1 k0 hk (by omega))
  obtain ⟨h1, rfl⟩ := zix_s hj
  rw [zcell_arr, zarr_i hkd (Or.inl rfl)] at hq
  refine va_iast hx hb hG.2.2.1 hG.1 hG.2.1 hS q0 0 hq rfl h1 hdg (fun H1 locs1 hP1 hD1 hS1 => ?_)
  rw [zws_set (D := D) (σ' := zsA σ c0 i0 k0 i.toNatClampNeg x) hG.2.1 hq0 (by rw [zcell_arr, zarr_i hkd (Or.inl rfl)]; simp only [zA, zsA, zu3_eq]; rfl) (fun q hq => zcell_A nl aC ad σ c0 i0 k0 _ x q hq)] at hP1 hD1
  exact kk H1 locs1 ⟨hP1, hD1, hG.2.2.1, hG.2.2.2⟩ hS1
theorem z_bast (S : zS p m c cc nL s args own) (hG : zG D aC A nl ad σ s H) (hS : va_S A H0 H locs) {c0 i0 k0 : Nat} (hn : zin nl c0 i0) (hk : k0 < zN c0) (hkd : zkd c0 k0 = 5) {i x : Int32} {j : Nat} (hj : zix i (zln c0 i0 k0) = some j) (hdg : decode cc pc = .ok (.bastore, 1))
    (kk : ∀ (H1 : Heap) (locs1 : List Loc), zG D aC A nl ad (zsA σ c0 i0 k0 j (vp_nar .byte x)) s H1 → va_S A H0 H1 locs1 → W p l e R s m args below meth c H1 locs1 cells slots Q (F0 m (pc + 1) ls rest)) : W p l e R s m args below meth c H locs cells slots Q (F0 m pc ls (.int x :: .int i :: .ref (ad c0 i0 (k0 + 1)) :: rest)) := by
  obtain ⟨hx, hb, -, hown, hts⟩ := S
  obtain ⟨q0, hq0, hq⟩ := zG_at hG (hn.2.1 k0 hk (by omega))
  obtain ⟨h1, rfl⟩ := zix_s hj
  rw [zcell_arr, zarr_i hkd (Or.inr (Or.inl rfl))] at hq
  refine va_bast hx hb hG.2.2.1 hG.1 hG.2.1 hS q0 1 hq rfl h1 hdg (fun H1 locs1 hP1 hD1 hS1 => ?_)
  rw [zws_set (D := D) (σ' := zsA σ c0 i0 k0 i.toNatClampNeg (vp_nar .byte x)) hG.2.1 hq0 (by rw [zcell_arr, zarr_i hkd (Or.inr (Or.inl rfl))]; simp only [zA, zsA, zu3_eq]; rfl) (fun q hq => zcell_A nl aC ad σ c0 i0 k0 _ _ q hq)] at hP1 hD1
  exact kk H1 locs1 ⟨hP1, hD1, hG.2.2.1, hG.2.2.2⟩ hS1
theorem z_zast (S : zS p m c cc nL s args own) (hG : zG D aC A nl ad σ s H) (hS : va_S A H0 H locs) {c0 i0 k0 : Nat} (hn : zin nl c0 i0) (hk : k0 < zN c0) (hkd : zkd c0 k0 = 6) {i x : Int32} {j : Nat} (hj : zix i (zln c0 i0 k0) = some j) (hdg : decode cc pc = .ok (.bastore, 1))
    (kk : ∀ (H1 : Heap) (locs1 : List Loc), zG D aC A nl ad (zsA σ c0 i0 k0 j (vp_nar .boolean x)) s H1 → va_S A H0 H1 locs1 → W p l e R s m args below meth c H1 locs1 cells slots Q (F0 m (pc + 1) ls rest)) : W p l e R s m args below meth c H locs cells slots Q (F0 m pc ls (.int x :: .int i :: .ref (ad c0 i0 (k0 + 1)) :: rest)) := by
  obtain ⟨hx, hb, -, hown, hts⟩ := S
  obtain ⟨q0, hq0, hq⟩ := zG_at hG (hn.2.1 k0 hk (by omega))
  obtain ⟨h1, rfl⟩ := zix_s hj
  rw [zcell_arr, zarr_i hkd (Or.inr (Or.inr rfl))] at hq
  refine va_zast hx hb hG.2.2.1 hG.1 hG.2.1 hS q0 2 hq rfl h1 hdg (fun H1 locs1 hP1 hD1 hS1 => ?_)
  rw [zws_set (D := D) (σ' := zsA σ c0 i0 k0 i.toNatClampNeg (vp_nar .boolean x)) hG.2.1 hq0 (by rw [zcell_arr, zarr_i hkd (Or.inr (Or.inr rfl))]; simp only [zA, zsA, zu3_eq]; rfl) (fun q hq => zcell_A nl aC ad σ c0 i0 k0 _ _ q hq)] at hP1 hD1
  exact kk H1 locs1 ⟨hP1, hD1, hG.2.2.1, hG.2.2.2⟩ hS1
theorem z_last (S : zS p m c cc nL s args own) (hG : zG D aC A nl ad σ s H) (hS : va_S A H0 H locs) {c0 i0 k0 : Nat} (hn : zin nl c0 i0) (hk : k0 < zN c0) (hkd : zkd c0 k0 = 7) {i : Int32} {x : Int64} {j : Nat} (hj : zix i (zln c0 i0 k0) = some j) (hdg : decode cc pc = .ok (.lastore, 1))
    (kk : ∀ (H1 : Heap) (locs1 : List Loc), zG D aC A nl ad (zsL σ c0 i0 k0 j x) s H1 → va_S A H0 H1 locs1 → W p l e R s m args below meth c H1 locs1 cells slots Q (F0 m (pc + 1) ls rest)) : W p l e R s m args below meth c H locs cells slots Q (F0 m pc ls (.long x :: .int i :: .ref (ad c0 i0 (k0 + 1)) :: rest)) := by
  obtain ⟨hx, hb, -, hown, hts⟩ := S
  obtain ⟨q0, hq0, hq⟩ := zG_at hG (hn.2.1 k0 hk (by omega))
  obtain ⟨h1, rfl⟩ := zix_s hj
  rw [zcell_arr, zarr_l hkd] at hq
  refine va_last hx hb hG.2.2.1 hG.1 hG.2.1 hS q0 3 hq rfl h1 hdg (fun H1 locs1 hP1 hD1 hS1 => ?_)
  rw [zws_set (D := D) (σ' := zsL σ c0 i0 k0 i.toNatClampNeg x) hG.2.1 hq0 (by rw [zcell_arr, zarr_l hkd]; simp only [zL, zsL, zu3_eq]; rfl) (fun q hq => zcell_L nl aC ad σ c0 i0 k0 _ x q hq)] at hP1 hD1
  exact kk H1 locs1 ⟨hP1, hD1, hG.2.2.1, hG.2.2.2⟩ hS1
theorem zRf_O {nl : zNL} {σ : zM} (h : zRf nl σ) (c0 i0 k0 j0 n y : Nat) (hk : zkd c0 k0 = n) (hn : (n = 8 ∧ zin nl 7 y) ∨ (n = 9 ∧ zin nl 0 y)) : zRf nl (zsO σ c0 i0 k0 j0 (some y)) := by
  refine ⟨h.1, fun c i k x j h2 hj => ?_, fun c i k x j h2 hj => ?_⟩
  · by_cases hc : c = c0 ∧ i = i0 ∧ k = k0
    · obtain ⟨rfl, rfl, rfl⟩ := hc
      simp only [zO, zsO, zu3_eq, zu] at hj
      split at hj
      · cases hj
        rcases hn with ⟨h8, hz⟩ | ⟨h9, hz⟩
        · exact hz
        · omega
      · exact h.2.1 c i k x j h2 hj
    · simp only [zO, zsO, zu3_ne hc] at hj
      exact h.2.1 c i k x j h2 hj
  · by_cases hc : c = c0 ∧ i = i0 ∧ k = k0
    · obtain ⟨rfl, rfl, rfl⟩ := hc
      simp only [zO, zsO, zu3_eq, zu] at hj
      split at hj
      · cases hj
        rcases hn with ⟨h8, hz⟩ | ⟨h9, hz⟩
        · omega
        · exact hz
      · exact h.2.2 c i k x j h2 hj
    · simp only [zO, zsO, zu3_ne hc] at hj
      exact h.2.2 c i k x j h2 hj
theorem z_aast8 (S : zS p m c cc nL s args own) (hG : zG D aC A nl ad σ s H) (hS : va_S A H0 H locs) {c0 i0 k0 : Nat} (hn : zin nl c0 i0) (hk : k0 < zN c0) (hkd : zkd c0 k0 = 8) {y : Nat} (hy : zin nl 7 y) {i : Int32} {j : Nat} (hj : zix i (zln c0 i0 k0) = some j) (hdg : decode cc pc = .ok (.aastore, 1))
    (kk : ∀ (H1 : Heap) (locs1 : List Loc), zG D aC A nl ad (zsO σ c0 i0 k0 j (some y)) s H1 → va_S A H0 H1 locs1 → W p l e R s m args below meth c H1 locs1 cells slots Q (F0 m (pc + 1) ls rest)) : W p l e R s m args below meth c H locs cells slots Q (F0 m pc ls (.ref (ad 7 y 0) :: .int i :: .ref (ad c0 i0 (k0 + 1)) :: rest)) := by
  obtain ⟨hx, hb, -, hown, hts⟩ := S
  obtain ⟨q0, hq0, hq⟩ := zG_at hG (hn.2.1 k0 hk (by omega))
  obtain ⟨q1, -, hq1⟩ := zG_at hG hy.1
  obtain ⟨h1, rfl⟩ := zix_s hj
  rw [zcell_arr, zarr_8 hkd] at hq
  refine va_astq (r := (RX7, TX7, zN 7)) hx hb hG.2.2.1 hG.1 hG.2.1 hS q0 4 q1 7 hq rfl hq1 rfl h1 hdg (fun H1 locs1 hP1 hD1 hS1 => ?_)
  rw [zws_set (D := D) (σ' := zsO σ c0 i0 k0 i.toNatClampNeg (some y)) hG.2.1 hq0 (by rw [zcell_arr, zarr_8 hkd]; simp only [zO, zsO, zu3_eq]; congr 7; funext q; simp only [zu, va_up]; split <;> rfl) (fun q hq => zcell_O nl aC ad σ c0 i0 k0 _ _ q hq)] at hP1 hD1
  exact kk H1 locs1 ⟨hP1, hD1, hG.2.2.1, zRf_O hG.2.2.2 c0 i0 k0 _ 8 y hkd (by exact Or.inl ⟨rfl, hy⟩)⟩ hS1
theorem z_aast9 (S : zS p m c cc nL s args own) (hG : zG D aC A nl ad σ s H) (hS : va_S A H0 H locs) {c0 i0 k0 : Nat} (hn : zin nl c0 i0) (hk : k0 < zN c0) (hkd : zkd c0 k0 = 9) {y : Nat} (hy : zin nl 0 y) {i : Int32} {j : Nat} (hj : zix i (zln c0 i0 k0) = some j) (hdg : decode cc pc = .ok (.aastore, 1))
    (kk : ∀ (H1 : Heap) (locs1 : List Loc), zG D aC A nl ad (zsO σ c0 i0 k0 j (some y)) s H1 → va_S A H0 H1 locs1 → W p l e R s m args below meth c H1 locs1 cells slots Q (F0 m (pc + 1) ls rest)) : W p l e R s m args below meth c H locs cells slots Q (F0 m pc ls (.ref (ad 0 y 0) :: .int i :: .ref (ad c0 i0 (k0 + 1)) :: rest)) := by
  obtain ⟨hx, hb, -, hown, hts⟩ := S
  obtain ⟨q0, hq0, hq⟩ := zG_at hG (hn.2.1 k0 hk (by omega))
  obtain ⟨q1, -, hq1⟩ := zG_at hG hy.1
  obtain ⟨h1, rfl⟩ := zix_s hj
  rw [zcell_arr, zarr_9 hkd] at hq
  refine va_astq (r := (RX0, TX0, zN 0)) hx hb hG.2.2.1 hG.1 hG.2.1 hS q0 5 q1 0 hq rfl hq1 rfl h1 hdg (fun H1 locs1 hP1 hD1 hS1 => ?_)
  rw [zws_set (D := D) (σ' := zsO σ c0 i0 k0 i.toNatClampNeg (some y)) hG.2.1 hq0 (by rw [zcell_arr, zarr_9 hkd]; simp only [zO, zsO, zu3_eq]; congr 7; funext q; simp only [zu, va_up]; split <;> rfl) (fun q hq => zcell_O nl aC ad σ c0 i0 k0 _ _ q hq)] at hP1 hD1
  exact kk H1 locs1 ⟨hP1, hD1, hG.2.2.1, zRf_O hG.2.2.2 c0 i0 k0 _ 9 y hkd (by exact Or.inr ⟨rfl, hy⟩)⟩ hS1
/-! calls and ends -/
theorem z_run {v0 : Option Value} {G : State → Prop} {A0 : Nat → Prop} {a : Array Value} {mc ms : Nat} {st0 : List Value} (hr : va_Run p l e R s m args below meth c H locs cells slots mc ms (F0 m pc ls st0) rest (zQ v0 G A0 a) A0) (hS : va_S A0 H0 H locs)
    (kk : ∀ (t : State) (H1 : Heap) (locs1 : List Loc), t.heap = H1 → s.vm.Alike t.vm → G t → va_S A0 H0 H1 locs1 → W p l e R s m args below meth c H1 locs1 (cells + mc) (slots + ms) Q (F0 m (pc + 3) ls (v0.toList ++ rest))) : W p l e R s m args below meth c H locs cells slots Q (F0 m pc ls st0) := by
  intro T hT X
  obtain ⟨v, st₀, t, T', L, h0, X', hL, e1, e2, ⟨hv, hg, hz, hk⟩, st⟩ := hr T hT X
  cases hv
  rw [h0] at hz hk
  obtain ⟨t2, a1, b1⟩ := kk t T'.heap (locs ++ L) e1.symm (by rw [← e2]; exact X'.warmed.alike) hg
    ⟨Nat.le_trans hS.1 (by rw [e1]; exact hz), fun q h1 h2 => by rw [e1, hk q (Nat.lt_of_lt_of_le h1 hS.1) h2]; exact hS.2.1 q h1 h2, fun q hq => by
      rcases List.mem_append.mp hq with h | h
      · exact hS.2.2 q h
      · exact hL q h⟩ T' rfl X'
  exact ⟨t2, st t2 a1, b1⟩
/-- the class of a receiver -/
theorem z_recv (hG : zG D aC A nl ad σ s H) {c0 i0 : Nat} {q : vw_C} (hn : zin nl c0 i0) (hc : vwCl[c0]? = some q) : ∃ cell : Cell, H[ad c0 i0 0]? = some cell ∧ cell.vm.isStatics = false ∧ s.vm.findClass q.1 = some cell.cls := by
  obtain ⟨q0, -, hq⟩ := zG_at hG hn.1
  exact va_recv hG.2.2.1 hG.1 hc hq
variable {y : MethodName} {bytes : ByteArray} {maxL index n : Nat} {ret : Option FieldType} {rm : Room} {zs : Nat × Nat} {fx : List (Nat × Nat)} {nl0 : zNL} {As : List Value} {v0 : Option Value} {σ' : zM}
theorem z_callV {Px : Prop} {c0 i0 : Nat} {q : vw_C} (hn : zin nl c0 i0) (hc : vwCl[c0]? = some q) (S : zS p m c cc nL s args own) (hG : zG D aC A nl ad σ s H) (hS : va_S A s.heap H locs) (hZ : zH zs fx A nl0 s) (hnl : ∀ c i, zin nl0 c i → zin nl c i) (hM : Met l y (Cond.code y bytes maxL ret :: wsL_law) rm (zP D aC zs fx A nl ad σ (.ref (ad c0 i0 0) :: As)) (zQ v0 (fun t => zG D aC A nl ad σ' t t.heap ∧ Px) A) 0 0 A) (w1 : Cond.methodLink own index y ∈ wsL_law) (w2 : Cond.instanceMethod y ∈ wsL_law) (w3 : Cond.selects q.1 y y ∈ wsL_law) (w4 : Cond.initialized q.1 ∈ wsL_law) (w5 : Cond.code y bytes maxL ret ∈ wsL_law) (hd : y.cls = q.1 ∧ y.cls ≠ "java/lang/invoke/MethodHandle" ∧ y.cls ≠ "java/lang/invoke/VarHandle" ∧ (parseMethodDescriptor y.desc).map (fun d => d.parameters.length) = some n) (hrm : rm.cells = 0 ∧ rm.slots = 0) (hR : rm.frames + 1 ≤ R.frames ∧ 8 + (maxL + 11) + rm.locals ≤ R.locals) (hl : ls.size = nL) (hlen : As.length = n) {st0 st1 : List Value} (hst : st0 = As.reverse ++ .ref (ad c0 i0 0) :: rest) (hst1 : v0.toList ++ rest = st1) (hw : (rest.map fun v => v.category).sum ≤ 8) (hdg : decode cc pc = .ok (.invokevirtual index, 3)) (hroom : cells ≤ R.cells ∧ slots ≤ R.slots)
    (kk : ∀ (H1 : Heap) (locs1 : List Loc), Px → zG D aC A nl ad σ' s H1 → va_S A s.heap H1 locs1 → W p l e R s m args below meth c H1 locs1 cells slots Q (F0 m (pc + 3) ls st1)) : W p l e R s m args below meth c H locs cells slots Q (F0 m pc ls st0) := by
  subst hst1
  refine z_run (va_runV S hM (cwV n S.2.2.2.2 (zGV w1 w2 w3 w4 w5) rfl hrm.1 hrm.2 hd hR) ⟨zP_blind, z_recv hG hn hc, fun U hU hW => zP_of hG hZ hnl hS hU hW⟩ rfl hlen hl hst (lv_room hw) hdg hroom) hS (fun t H1 locs1 ht hvm hg hS1 => ?_)
  have hg1 := hg.1
  rw [ht] at hg1
  exact kk H1 locs1 hg.2 (zG.kept hg1 hvm.symm) hS1
theorem z_callS {Px : Prop} (S : zS p m c cc nL s args own) (hG : zG D aC A nl ad σ s H) (hS : va_S A s.heap H locs) (hZ : zH zs fx A nl0 s) (hnl : ∀ c i, zin nl0 c i → zin nl c i) (hM : Met l y (Cond.code y bytes maxL ret :: wsL_law) rm (zP D aC zs fx A nl ad σ As) (zQ v0 (fun t => zG D aC A nl ad σ' t t.heap ∧ Px) A) 0 0 A) (w1 : Cond.methodLink own index y ∈ wsL_law) (w2 : Cond.static y ∈ wsL_law) (w4 : Cond.initialized y.cls ∈ wsL_law) (w5 : Cond.code y bytes maxL ret ∈ wsL_law) (hd : y.cls ≠ "java/lang/invoke/MethodHandle" ∧ y.cls ≠ "java/lang/invoke/VarHandle" ∧ (parseMethodDescriptor y.desc).map (fun d => d.parameters.length) = some n) (hrm : rm.cells = 0 ∧ rm.slots = 0) (hR : rm.frames + 1 ≤ R.frames ∧ 8 + (maxL + 11) + rm.locals ≤ R.locals) (hl : ls.size = nL) (hlen : As.length = n) {st0 st1 : List Value} (hst : st0 = As.reverse ++ rest) (hst1 : v0.toList ++ rest = st1) (hw : (rest.map fun v => v.category).sum ≤ 8) (hdg : decode cc pc = .ok (.invokestatic index, 3)) (hroom : cells ≤ R.cells ∧ slots ≤ R.slots)
    (kk : ∀ (H1 : Heap) (locs1 : List Loc), Px → zG D aC A nl ad σ' s H1 → va_S A s.heap H1 locs1 → W p l e R s m args below meth c H1 locs1 cells slots Q (F0 m (pc + 3) ls st1)) : W p l e R s m args below meth c H locs cells slots Q (F0 m pc ls st0) := by
  subst hst1
  refine z_run (va_runS S hM (va_cwS n S.2.2.2.2 (zGS w1 w2 w4 w5) rfl hrm.1 hrm.2 hd hR) ⟨zP_blind, fun U hU hW => zP_of hG hZ hnl hS hU hW⟩ rfl hlen hl hst (lv_room hw) hdg hroom) hS (fun t H1 locs1 ht hvm hg hS1 => ?_)
  have hg1 := hg.1
  rw [ht] at hg1
  exact kk H1 locs1 hg.2 (zG.kept hg1 hvm.symm) hS1
/-- a walk to a method's end -/
abbrev zWk (p : Program) (l : Launch) (e : Env) (R : Room) (s : State) (m : MethodId) (args : Array Value) (below : List Frame) (meth : Method) (c : Code) (A : Nat → Prop) (v : Option Value) (G : State → Prop) (H : Heap) (locs : List Loc) (g : JFrame) : Prop := W p l e R s m args below meth c H locs 0 0 (MQ below (zQ v G A) args s 0 0 A) g
theorem z_irem {x y v : Int32} (hexec : p.tables.exec = Jvm.exec) (hb : c.code = cc) (hdg : decode cc pc = .ok (.irem, 1)) (hne : ¬ y = 0) (hv : zrem x y = v) (kk : W p l e R s m args below meth c H locs cells slots Q (F0 m (pc + 1) ls (.int v :: rest))) : W p l e R s m args below meth c H locs cells slots Q (F0 m pc ls (.int y :: .int x :: rest)) := by
  subst hv
  exact lv_irem hexec hb hdg hne kk
theorem z_mmax {lv : List (Nat × Value)} {x y v : Int32} (S : zS p m c cc nL s args own) (hl : lv_has ls nL lv) (hlink : Cond.methodLink own index Lib.Math.max.name ∈ wsL_law) (hstat : Cond.static Lib.Math.max.name ∈ wsL_law) (hini : Cond.initialized "java/lang/Math" ∈ wsL_law) (hcode : Cond.code Lib.Math.max.name Lib.Math.max.code 2 (some .int) ∈ wsL_law) (hframes : 1 ≤ R.frames) (hlocals : 21 ≤ R.locals) (hw : (rest.map fun v => v.category).sum ≤ 8) (hc : cells ≤ R.cells) (hs : slots ≤ R.slots) (hv : zmax x y = v) (hdg : decode cc pc = .ok (.invokestatic index, 3)) (kk : W p l e R s m args below meth c H locs cells slots Q (F0 m (pc + 3) ls (.int v :: rest))) : W p l e R s m args below meth c H locs cells slots Q (F0 m pc ls (.int y :: .int x :: rest)) := by
  subst hv
  exact va_mmax S.1 S.2.1 (S.2.2.1.trans hl.1.symm) S.2.2.2.1 (S.2.2.2.2 _ hlink) (S.2.2.2.2 _ hstat) (S.2.2.2.2 _ hini) (S.2.2.2.2 _ hcode) hframes (by omega) hc hs hdg kk
theorem z_mmin {lv : List (Nat × Value)} {x y v : Int32} (S : zS p m c cc nL s args own) (hl : lv_has ls nL lv) (hlink : Cond.methodLink own index Lib.Math.min.name ∈ wsL_law) (hstat : Cond.static Lib.Math.min.name ∈ wsL_law) (hini : Cond.initialized "java/lang/Math" ∈ wsL_law) (hcode : Cond.code Lib.Math.min.name Lib.Math.min.code 2 (some .int) ∈ wsL_law) (hframes : 1 ≤ R.frames) (hlocals : 21 ≤ R.locals) (hw : (rest.map fun v => v.category).sum ≤ 8) (hc : cells ≤ R.cells) (hs : slots ≤ R.slots) (hv : zmin x y = v) (hdg : decode cc pc = .ok (.invokestatic index, 3)) (kk : W p l e R s m args below meth c H locs cells slots Q (F0 m (pc + 3) ls (.int v :: rest))) : W p l e R s m args below meth c H locs cells slots Q (F0 m pc ls (.int y :: .int x :: rest)) := by
  subst hv
  exact va_mmin S.1 S.2.1 (S.2.2.1.trans hl.1.symm) S.2.2.2.1 (S.2.2.2.2 _ hlink) (S.2.2.2.2 _ hstat) (S.2.2.2.2 _ hini) (S.2.2.2.2 _ hcode) hframes (by omega) hc hs hdg kk
/-- ends -/
theorem z_ret {Px : Prop} (S : zS p m c cc nL s args own) (hG : zG D aC A nl ad σ s H) (hS : va_S A s.heap H locs) (hPx : Px) (v : Option Value) (t : State) (ht : t.heap = H) (hW : s.WarmedH t.vm) : zQ v (fun t => zG D aC A nl ad σ t t.heap ∧ Px) A args s (.returned v) t := ⟨rfl, ⟨by rw [ht]; exact zG.kept hG hW.alike, hPx⟩, hS.F ht⟩
theorem z_iret {Px : Prop} (S : zS p m c cc nL s args own) (hG : zG D aC A nl ad σ s H) (hS : va_S A s.heap H locs) (hlocks : meth.locks = false) (hPx : Px) (hr : meth.sig.returnType = some .int) {v : Int32} (hdg : decode cc pc = .ok (.ireturn, 1)) : W p l e R s m args below meth c H locs cells slots (MQ below (zQ (some (.int v)) (fun t => zG D aC A nl ad σ t t.heap ∧ Px) A) args s cells slots A) (F0 m pc ls [.int v]) :=
  W.iret S.1 S.2.1 hr (fun t ht hW => z_ret S hG hS hPx _ t ht hW) hS.2.2 hdg hlocks
theorem zb_nar {v : Int32} (h : v = 0 ∨ v = 1) : narrow .boolean (.int v) = .int v := by
  rcases h with rfl | rfl <;> rfl
theorem zb_fit {v : Int32} (h : v = 0 ∨ v = 1) : fits .boolean (.int v) = true := by
  rcases h with rfl | rfl <;> rfl
theorem z_zret (S : zS p m c cc nL s args own) (hG : zG D aC A nl ad σ s H) (hS : va_S A s.heap H locs) (hlocks : meth.locks = false) {v : Int32} (hv : v = 0 ∨ v = 1) (hr : meth.sig.returnType = some .boolean) (hdg : decode cc pc = .ok (.ireturn, 1)) : W p l e R s m args below meth c H locs cells slots (MQ below (zQ (some (.int v)) (fun t => zG D aC A nl ad σ t t.heap ∧ (v = 0 ∨ v = 1)) A) args s cells slots A) (F0 m pc ls [.int v]) :=
  W.zret S.1 S.2.1 hr (zb_nar hv) (fun t ht hW => z_ret S hG hS hv _ t ht hW) hS.2.2 hdg hlocks
theorem z_lret {Px : Prop} (S : zS p m c cc nL s args own) (hG : zG D aC A nl ad σ s H) (hS : va_S A s.heap H locs) (hlocks : meth.locks = false) (hPx : Px) (hr : meth.sig.returnType = some .long) {v : Int64} (hdg : decode cc pc = .ok (.lreturn, 1)) : W p l e R s m args below meth c H locs cells slots (MQ below (zQ (some (.long v)) (fun t => zG D aC A nl ad σ t t.heap ∧ Px) A) args s cells slots A) (F0 m pc ls [.long v]) :=
  W.lret S.1 S.2.1 hr (fun t ht hW => z_ret S hG hS hPx _ t ht hW) hS.2.2 hdg hlocks
theorem z_vret {Px : Prop} (S : zS p m c cc nL s args own) (hG : zG D aC A nl ad σ s H) (hS : va_S A s.heap H locs) (hlocks : meth.locks = false) (hPx : Px) (hr : meth.sig.returnType = none) (hdg : decode cc pc = .ok (.return_, 1)) : W p l e R s m args below meth c H locs cells slots (MQ below (zQ none (fun t => zG D aC A nl ad σ t t.heap ∧ Px) A) args s cells slots A) (F0 m pc ls []) :=
  W.vret S.1 S.2.1 hr (fun t ht hW => z_ret S hG hS hPx _ t ht hW) hS.2.2 hdg hlocks
theorem z_aret {Px : Prop} (S : zS p m c cc nL s args own) (hG : zG D aC A nl ad σ s H) (hS : va_S A s.heap H locs) (hlocks : meth.locks = false) (hPx : Px) {rt : FieldType} (hr : meth.sig.returnType = some rt) (hrt : (∃ n, rt = .object n) ∨ ∃ t, rt = .array t) {v : Value} (hv : v = .null ∨ ∃ a, v = .ref a) (hdg : decode cc pc = .ok (.areturn, 1)) : W p l e R s m args below meth c H locs cells slots (MQ below (zQ (some v) (fun t => zG D aC A nl ad σ t t.heap ∧ Px) A) args s cells slots A) (F0 m pc ls [v]) :=
  W.aret S.1 S.2.1 hr hrt hv (fun t ht hW => z_ret S hG hS hPx _ t ht hW) hS.2.2 hdg hlocks
/-- static arrays -/
theorem z_gets (S : zS p m c cc nL s args own) {C n d : String} {v : Value} {index : Nat} (hZ : va_Z C n d v A s s.heap) (hS : va_S A s.heap H locs) (hlink : Cond.fieldLink own index C n d ∈ wsL_law) (hdg : decode cc pc = .ok (.getstatic index, 3)) (kk : W p l e R s m args below meth c H locs cells slots Q (F0 m (pc + 3) ls (v :: rest))) : W p l e R s m args below meth c H locs cells slots Q (F0 m pc ls rest) :=
  va_gets S.1 S.2.1 hZ hS S.2.2.2.1 (S.2.2.2.2 _ hlink) (fun _ h => h) hdg kk
theorem z_ti (S : zS p m c cc nL s args own) {t N : Nat} {f : Nat → Int32} (hT : va_T .int t N (fun j => .int (f j)) A s s.heap) (hS : va_S A s.heap H locs) {i : Int32} {j : Nat} (hj : zix i N = some j) (hdg : decode cc pc = .ok (.iaload, 1)) (kk : W p l e R s m args below meth c H locs cells slots Q (F0 m (pc + 1) ls (.int (f j) :: rest))) : W p l e R s m args below meth c H locs cells slots Q (F0 m pc ls (.int i :: .ref t :: rest)) := by
  obtain ⟨h1, rfl⟩ := zix_s hj
  exact va_ti S.1 S.2.1 hT hS h1 rfl hdg kk
theorem z_tlen (S : zS p m c cc nL s args own) {t N : Nat} {f : Nat → Int32} (hT : va_T .int t N (fun j => .int (f j)) A s s.heap) (hS : va_S A s.heap H locs) {v : Int32} (hv : Int32.ofNat N = v) (hdg : decode cc pc = .ok (.arraylength, 1)) (kk : W p l e R s m args below meth c H locs cells slots Q (F0 m (pc + 1) ls (.int v :: rest))) : W p l e R s m args below meth c H locs cells slots Q (F0 m pc ls (.ref t :: rest)) :=
  va_tlen S.1 S.2.1 hT hS hv hdg kk
end ZROWS
