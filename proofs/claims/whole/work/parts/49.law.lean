abbrev RLn : String := RL
def zSc (σ : zM) : Nat := (zI σ 11 0 12).toNatClampNeg
def zMd (σ : zM) : Nat := (zI σ 1 0 2).toNatClampNeg + (if zR σ 1 0 3 = none then 0 else 1)
/-- both answer alike, and what is known of the memory is known afterwards -/
def zOb (Inv : Nat → zM → Prop) (g1 g2 : zM → Option (Int32 × zM)) : Prop := ∀ n σ, n ≤ 4096 → Inv n σ → ∃ r σ1 σ2, g1 σ = some (r, σ1) ∧ g2 σ1 = some (r, σ2) ∧ Inv (n + 8) σ2 ∧ zSc σ2 = zSc σ ∧ zMd σ2 = zMd σ
theorem zro {a r : Int32} {σ σ1 : zM} (h : some (a, σ) = some (r, σ1)) : a = r ∧ σ1 = σ := by cases h; exact ⟨rfl, rfl⟩
theorem zrm {a : Option Int32} {r : Int32} {σ σ1 : zM} (h : a.map (fun r => (r, σ)) = some (r, σ1)) : a = some r ∧ σ1 = σ := by
  cases a with
  | none => cases h
  | some x => cases h; exact ⟨rfl, rfl⟩
theorem zvin {i : Int32} {n L : Nat} (hi : i = Int32.ofNat n) (hL : L ≤ 4096) (hn : n + 8 ≤ L) (k : Nat) (hk : k < 8) : vp_in (i + Int32.ofNat k) L := by
  subst hi
  have e : Int32.ofNat n + Int32.ofNat k = Int32.ofNat (n + k) := (Int32.ofNat_add n k).symm
  rw [e]
  have h1 : (Int32.ofNat (n + k)).toInt = ((n + k : Nat) : Int) := Int32.toInt_ofNat_of_lt (by omega)
  intro h
  rcases h with h | h
  · have := Int32.lt_iff_toInt_lt.mp h
    rw [h1] at this
    have h0 : (0 : Int32).toInt = 0 := rfl
    omega
  · have h2 : (Int32.ofNat (n + k)).toNatClampNeg = n + k := by
      show (Int32.ofNat (n + k)).toInt.toNat = n + k
      rw [h1]; rfl
    omega
theorem zkd3 (c k : Nat) (h : zkd c k = 3) : (zto c k, zfi c k) ∈ zfX := by
  have hc : c < 13 := by
    apply Nat.lt_of_not_le
    intro hc
    have : zkdT.getD c [] = [] := by rw [List.getD_eq_getElem?_getD, List.getElem?_eq_none (by simpa [zkdT] using hc)]; rfl
    unfold zkd at h
    rw [this] at h
    cases h
  have hk : k < 67 := by
    apply Nat.lt_of_not_le
    intro hk
    have hl : (zkdT.getD c []).length ≤ 67 := (by decide +kernel : ∀ c, c < 13 → (zkdT.getD c []).length ≤ 67) c hc
    unfold zkd at h
    rw [List.getD_eq_getElem?_getD, List.getElem?_eq_none (by omega)] at h
    cases h
  have hall : (List.range 13).all (fun c => (List.range 67).all fun k => zkd c k != 3 || zfX.contains (zto c k, zfi c k)) = true := by decide +kernel
  have h1 := List.all_eq_true.mp (List.all_eq_true.mp hall c (List.mem_range.mpr hc)) k (List.mem_range.mpr hk)
  rw [h] at h1
  exact List.contains_iff_mem.mp (by simpa using h1)
/-- another telling of the addresses, where nothing lives -/
theorem zG_ad {D : va_G} {aC : Nat → ClassId} {A : Nat → Prop} {nl : zNL} {ad ad2 : Nat → Nat → Nat → Nat} {σ : zM} {U : State} {H : Heap} {c0 i0 : Nat} (hG : zG D aC A nl ad σ U H) (hfx : ∀ q ∈ zfX, zin nl q.1 q.2) (hag : ∀ c i k, ¬ (c = c0 ∧ i = i0) → ad2 c i k = ad c i k) (hfr : ∀ k, (c0, i0, k) ∉ nl.1) : zG D aC A nl ad2 σ U H := by
  have hz : ∀ c i k, zin nl c i → ad2 c i k = ad c i k := fun c i k h => hag c i k (fun e => hfr 0 (by rw [← e.1, ← e.2]; exact h.1))
  have hc : ∀ q ∈ nl.1, zcell nl aC ad2 σ q = zcell nl aC ad σ q := by
    intro q hq
    obtain ⟨c, i, k⟩ := q
    have hne : ¬ (c = c0 ∧ i = i0) := fun e => hfr k (by rw [← e.1, ← e.2]; exact hq)
    cases k with
    | zero =>
      rw [zcell_obj, zcell_obj]
      congr 2
      refine List.map_congr_left fun j _ => ?_
      unfold zval
      split
      · rfl
      · unfold zval0
        split
        · rfl
        · rfl
        · rename_i h2
          congr 1
          cases hr : zR σ c i j with
          | none => rfl
          | some x => simp only [Option.map_some]; rw [hz _ _ _ (hG.2.2.2.1 c i j x h2 hr)]
        · rename_i h3
          rw [hz _ _ _ (hfx _ (zkd3 c j h3))]
        · rw [hag c i _ hne]
    | succ k =>
      rw [zcell_arr, zcell_arr]
      unfold zarr
      split
      · rfl
      · rename_i h8
        congr 7
        funext x
        cases hr : zO σ c i k x with
        | none => rfl
        | some y => simp only [Option.map_some]; rw [hz _ _ _ (hG.2.2.2.2.1 c i k x y h8 hr)]
      · rename_i h9
        congr 7
        funext x
        cases hr : zO σ c i k x with
        | none => rfl
        | some y => simp only [Option.map_some]; rw [hz _ _ _ (hG.2.2.2.2.2 c i k x y h9 hr)]
      · rfl
  have hw : zws aC nl ad2 σ = zws aC nl ad σ := by
    unfold zws
    refine List.map_congr_left fun q hq => ?_
    rw [hc q hq]
    have : zad ad2 q = zad ad q := hag _ _ _ (fun e => hfr q.2.2 (by obtain ⟨c, i, k⟩ := q; obtain ⟨rfl, rfl⟩ := e; exact hq))
    rw [this]
  refine ⟨by rw [hw]; exact hG.1, by rw [hw]; exact hG.2.1, hG.2.2.1, hG.2.2.2⟩
theorem zad_new (ad : Nat → Nat → Nat → Nat) (c0 i0 sz : Nat) (ks : List Nat) : ∃ ad2 : Nat → Nat → Nat → Nat, (∀ c i k, ¬ (c = c0 ∧ i = i0) → ad2 c i k = ad c i k) ∧ ∀ j, j < ks.length → ad2 c0 i0 (ks.getD j 0) = sz + ks.idxOf (ks.getD j 0) := by
  refine ⟨fun c i k => if c = c0 ∧ i = i0 then sz + ks.idxOf k else ad c i k, fun c i k h => if_neg h, fun j _ => if_pos ⟨rfl, rfl⟩⟩

