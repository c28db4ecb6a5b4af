/-! ===== nI under and, xor, >>>, one bit, 65535 ===== -/
theorem nx_and (a b : Nat) : nI a &&& nI b = nI (a &&& b) := by
  apply Int32.toBitVec_inj.1
  show BitVec.ofNat 32 a &&& BitVec.ofNat 32 b = BitVec.ofNat 32 (a &&& b)
  apply BitVec.eq_of_getLsbD_eq
  intro i hi
  simp [hi]
theorem nx_xor (a b : Nat) : nI a ^^^ nI b = nI (a ^^^ b) := by
  apply Int32.toBitVec_inj.1
  show BitVec.ofNat 32 a ^^^ BitVec.ofNat 32 b = BitVec.ofNat 32 (a ^^^ b)
  apply BitVec.eq_of_getLsbD_eq
  intro i hi
  simp [hi]
theorem nx_cnt : ∀ j : Fin 32, (UInt32.ofNat j.val &&& Int32.toUInt32 31).toNat % 32 = j.val := by decide +kernel
theorem nx_ush {k j : Nat} (hk : k < 65536) (hj : j < 32) : ((nI k).toUInt32 >>> ((nI j).toUInt32 &&& Int32.toUInt32 31)).toInt32 = nI (k >>> j) := by
  have hs : k >>> j ≤ k := by
    rw [Nat.shiftRight_eq_div_pow]
    exact Nat.div_le_self _ _
  have e2 : UInt32.ofNat k >>> (UInt32.ofNat j &&& Int32.toUInt32 31) = UInt32.ofNat (k >>> j) := by
    apply UInt32.toNat_inj.1
    have h1 : (UInt32.ofNat k).toNat = k := Nat.mod_eq_of_lt (by omega)
    have h2 : (UInt32.ofNat (k >>> j)).toNat = k >>> j := Nat.mod_eq_of_lt (by omega)
    rw [UInt32.toNat_shiftRight, nx_cnt ⟨j, hj⟩, h1, h2]
  show (UInt32.ofNat k >>> (UInt32.ofNat j &&& Int32.toUInt32 31)).toInt32 = _
  rw [e2]
  rfl
theorem nx_bit {k j : Nat} (hk : k < 65536) (hj : j < 16) : (((nI k).toUInt32 >>> ((nI j).toUInt32 &&& Int32.toUInt32 31)).toInt32 &&& 1) = 0 ↔ k.testBit j = false := by
  rw [nx_ush hk (by omega)]
  show nI (k >>> j) &&& nI 1 = 0 ↔ _
  rw [nx_and, Nat.and_one_is_mod, ← nI_0, nI_eq (by omega) (by omega), Nat.testBit_eq_decide_div_mod_eq, Nat.shiftRight_eq_div_pow, decide_eq_false_iff_not]
  generalize k / 2 ^ j = z
  omega
theorem nx_mod (k : Nat) : nI k &&& 65535 = nI (k % 65536) := by
  show nI k &&& nI 65535 = _
  rw [nx_and, show (65535 : Nat) = 2 ^ 16 - 1 from rfl, Nat.and_two_pow_sub_one_eq_mod]
theorem nx_m16 {k : Nat} (h : k < 65536) : nI k &&& 65535 = nI k := by rw [nx_mod, Nat.mod_eq_of_lt h]
theorem nx_mask (x : Int32) : ∃ k, k < 65536 ∧ x &&& 65535 = nI k := by
  have e : x = nI x.toBitVec.toNat := by
    apply Int32.toBitVec_inj.1
    show x.toBitVec = BitVec.ofNat 32 x.toBitVec.toNat
    simp
  refine ⟨x.toBitVec.toNat % 65536, Nat.mod_lt _ (by omega), ?_⟩
  rw [← nx_mod, ← e]
/-! the bits of an int, counted: the JDK's way -/
def zIa (x : Int32) : Int32 := x - (zushr x 1 &&& 1431655765)
def zIb (a : Int32) : Int32 := (a &&& 858993459) + (zushr a 2 &&& 858993459)
def zIc (b : Int32) : Int32 := (b + zushr b 4) &&& 252645135
def zId (c : Int32) : Int32 := c + zushr c 8
def zIe (d : Int32) : Int32 := (d + zushr d 16) &&& 63
theorem zI_all (x : Int32) : f_J6_bitCount_0f7a4 x = zIe (zId (zIc (zIb (zIa x)))) := rfl
theorem zushrN {n k : Nat} (hn : n < 2 ^ 32) (hk : k < 32) : zushr (nI n) (nI k) = nI (n / 2 ^ k) := pk_ushrN hn (nI k) k (s_u k hk)
theorem zpn_end4 {p0 p1 p2 p3 c c1 c2 c3 c4 d : Nat} (h0 : p0 ≤ 8) (h1 : p1 ≤ 8) (h2 : p2 ≤ 8) (h3 : p3 ≤ 8) (e0 : c = 256 * c1 + p0) (e1 : c1 = 256 * c2 + p1) (e2 : c2 = 256 * c3 + p2) (e3 : c3 = 256 * c4 + p3) (e4 : c4 = 0) (hd : d = c + c / 256) : (d + d / 65536) % 64 = p0 + (p1 + (p2 + (p3 + 0))) ∧ c < 2 ^ 30 ∧ d < 2 ^ 31 := by
  obtain ⟨a1, a2⟩ := zpn_A h0 h1 h2 e0 e1 e2 hd
  have b4 : c4 ≤ 0 := Nat.le_of_eq e4
  have b3 := zpn_b h3 e3 b4
  have b2 := zpn_b h2 e2 b3
  have b1 := zpn_b h1 e1 b2
  have b0 := zpn_b h0 e0 b1
  rw [a2]
  clear a2 hd
  refine ⟨?_, ?_, ?_⟩
  · omega
  · omega
  · omega
theorem zbits32 {m : Nat} (hm : m < 2 ^ 31) : f_J6_bitCount_0f7a4 (nI m) = nI (fb_ct (fun j => m.testBit j) 32) := by
  have k5 : (1431655765 : Int32) = nI (zKm 0x55 4) := by decide
  have k3 : (858993459 : Int32) = nI (zKm 0x33 4) := by decide
  have kf : (252645135 : Int32) = nI (zKm 0x0f 4) := by decide
  have k3n : zKm 0x33 4 = 858993459 := by decide
  have ha : zIa (nI m) = nI (zNa 4 m) := by
    unfold zIa zNa
    have h1 : m / 2 ^ 1 &&& zKm 0x55 4 ≤ m / 2 ^ 1 := Nat.and_le_left
    rw [show (1 : Int32) = nI 1 from rfl, zushrN (by omega) (by omega), k5, fa_and, zsubI (by omega)]
  have hal : zNa 4 m ≤ m := Nat.sub_le _ _
  have hb : zIb (nI (zNa 4 m)) = nI (zNb 4 (zNa 4 m)) := by
    unfold zIb zNb
    rw [show (2 : Int32) = nI 2 from rfl, zushrN (by omega) (by omega), k3, fa_and, fa_and, nI_add]
  have hbl : zNb 4 (zNa 4 m) < 2 ^ 31 := by
    unfold zNb
    have h1 : zNa 4 m &&& zKm 0x33 4 ≤ zKm 0x33 4 := Nat.and_le_right
    have h2 : zNa 4 m / 4 &&& zKm 0x33 4 ≤ zKm 0x33 4 := Nat.and_le_right
    omega
  have hc : zIc (nI (zNb 4 (zNa 4 m))) = nI (zNc 4 (zNb 4 (zNa 4 m))) := by
    unfold zIc zNc
    rw [show (4 : Int32) = nI 4 from rfl, zushrN (by omega) (by omega), kf, nI_add, fa_and]
  have p8 : ∀ x : Nat, fb_ct (fun j => x.testBit j) 8 ≤ 8 := fun x => fb_ct_le _ _
  obtain ⟨c, hcc⟩ : ∃ c, c = zpn 4 m := ⟨_, rfl⟩
  obtain ⟨d, hd⟩ : ∃ d, d = c + c / 256 := ⟨_, rfl⟩
  obtain ⟨h1, h2, h3⟩ := zpn_end4 (p8 _) (p8 _) (p8 _) (p8 _) (show c = 256 * zpn 3 (m / 256) + _ from hcc) (show zpn 3 (m / 256) = 256 * zpn 2 (m / 256 / 256) + _ from rfl) (show zpn 2 (m / 256 / 256) = 256 * zpn 1 (m / 256 / 256 / 256) + _ from rfl) (show zpn 1 (m / 256 / 256 / 256) = 256 * zpn 0 (m / 256 / 256 / 256 / 256) + _ from rfl) rfl hd
  rw [zI_all, ha, hb, hc, zNC, ← hcc]
  have hdd : zId (nI c) = nI d := by
    unfold zId
    rw [zq8, zushrN (by omega) (by omega), nI_add, hd]
  rw [hdd]
  unfold zIe
  rw [zq16, zushrN (by omega) (by omega), nI_add, show (63 : Int32) = nI (2 ^ 6 - 1) from rfl, fa_mask]
  congr 1
  rw [← zps_ct 4 m]
  exact h1
theorem z1shl : ∀ r, r < 31 → (1 : Int32) <<< (nI r &&& 31) = nI (2 ^ r) := by decide +kernel
theorem zbit0 {L r : Nat} (hL : L < 65536) (hr : r < 16) : (zushr (nI L) (nI r) &&& 1) = 0 ↔ L.testBit r = false := nx_bit hL hr
/-! what is measured: the class -/
theorem X7_rooms {σ : zM} {s : Nat} {C : Nat → Nat} (hX : zCX σ s C) : f_X7_roomsWithCells σ s = some (nI (zroo C)) := by
  unfold f_X7_roomsWithCells
  have hw := zwh_up (f := fun (q : (Int32 × Int32)) => f_X7_roomsWithCells_L4 σ s q.1 q.2) (fun i => (nI (fb_ct (fun r => decide (0 < zcnt1 C (r + 1))) i), nI (i + 1))) 12 (t := nI (zroo C)) ?_ ?_ (by omega)
  · rw [show ((0 : Int32), (1 : Int32)) = (fun i => (nI (fb_ct (fun r => decide (0 < zcnt1 C (r + 1))) i), nI (i + 1))) 0 from rfl, hw, Option.bind_some]
  · intro i hi
    show f_X7_roomsWithCells_L4 σ s (nI (fb_ct (fun r => decide (0 < zcnt1 C (r + 1))) i)) (nI (i + 1)) = _
    have hc : zcnt1 C (i + 1) ≤ 160 := fb_ct_le _ _
    unfold f_X7_roomsWithCells_L4
    rw [if_neg (by rw [zq12, nI_ltI (by omega) (by omega)]; omega), if_neg (by rw [zq15, nI_leI (by omega) (by omega)]; omega), zix_n (show i + 1 < 15 by omega) (by omega), Option.bind_some, hX.2.2.1 (i + 1) (by omega) (by omega), nI_1]
    show _ = some (Sum.inl (nI (fb_ct (fun r => decide (0 < zcnt1 C (r + 1))) i + (if decide (0 < zcnt1 C (i + 1)) then 1 else 0)), nI (i + 1 + 1)))
    by_cases h : 0 < zcnt1 C (i + 1)
    · rw [if_neg (show ¬ nI (zcnt1 C (i + 1)) ≤ 0 by rw [show (0 : Int32) = nI 0 from rfl, nI_leI (by omega) (by omega)]; omega), if_pos (decide_eq_true h), nI_1]
    · rw [if_pos (show nI (zcnt1 C (i + 1)) ≤ 0 by rw [show (0 : Int32) = nI 0 from rfl, nI_leI (by omega) (by omega)]; omega), if_neg (by rw [decide_eq_false h]; decide), Int32.add_zero]
      rfl
  · show f_X7_roomsWithCells_L4 σ s _ (nI 13) = _
    unfold f_X7_roomsWithCells_L4
    rw [if_pos (show (12 : Int32) < nI 13 by decide)]
    rfl
def zLit (C S : Nat → Nat) (p L : Nat) : Prop := L < 2 ^ 13 ∧ ∀ r, L.testBit r = (decide (1 ≤ r) && decide (r ≤ 12) && decide (0 < zlp C S r p))
theorem zLit_s {C S : Nat → Nat} {p L : Nat} (h : zLit C S p L) (hs : ∀ r, 1 ≤ r → r ≤ 12 → zBd C p = r → 0 < zlg1 C S (zce p) 4 0 → L.testBit r = true) : zLit C S (p + 1) L := by
  refine ⟨h.1, fun r => ?_⟩
  have e : zlp C S r (p + 1) = if zBd C p = r then Nat.max (zlp C S r p) (zlg1 C S (zce p) 4 0) else zlp C S r p := rfl
  rw [h.2 r, e]
  by_cases h1 : 1 ≤ r
  · by_cases h12 : r ≤ 12
    · by_cases hb : zBd C p = r
      · rw [if_pos hb]
        have hmx : Nat.max (zlp C S r p) (zlg1 C S (zce p) 4 0) = max (zlp C S r p) (zlg1 C S (zce p) 4 0) := rfl
        by_cases hl : 0 < zlg1 C S (zce p) 4 0
        · have h3 := hs r h1 h12 hb hl
          rw [h.2 r] at h3
          rw [h3, decide_eq_true h1, decide_eq_true h12, decide_eq_true (show 0 < Nat.max (zlp C S r p) (zlg1 C S (zce p) 4 0) by rw [hmx]; omega)]
          rfl
        · rw [show Nat.max (zlp C S r p) (zlg1 C S (zce p) 4 0) = zlp C S r p by rw [hmx]; omega]
      · rw [if_neg hb]
    · rw [decide_eq_false h12, Bool.and_false, Bool.false_and, Bool.false_and]
  · rw [decide_eq_false h1, Bool.false_and, Bool.false_and, Bool.false_and]
theorem zLit_y {C S : Nat → Nat} {p L r : Nat} (h : zLit C S p L) (h1 : 1 ≤ r) (h12 : r ≤ 12) (hb : zBd C p = r) (hl : 0 < zlg1 C S (zce p) 4 0) : zLit C S (p + 1) (L ||| 2 ^ r) := by
  refine ⟨Nat.or_lt_two_pow h.1 (Nat.pow_lt_pow_right (by decide) (by omega)), fun w => ?_⟩
  have e : zlp C S w (p + 1) = if zBd C p = w then Nat.max (zlp C S w p) (zlg1 C S (zce p) 4 0) else zlp C S w p := rfl
  rw [fb_bit_set, h.2 w, e]
  by_cases hw : w = r
  · subst hw
    have hmx : Nat.max (zlp C S w p) (zlg1 C S (zce p) 4 0) = max (zlp C S w p) (zlg1 C S (zce p) 4 0) := rfl
    rw [if_pos hb, decide_eq_true h1, decide_eq_true h12, decide_eq_true (show 0 < Nat.max (zlp C S w p) (zlg1 C S (zce p) 4 0) by rw [hmx]; omega), decide_eq_true rfl, Bool.or_true]
    rfl
  · rw [if_neg (fun e => hw (by rw [← e, hb])), decide_eq_false hw, Bool.or_false]
theorem X8_dark1 {σ : zM} {s : Nat} {C S : Nat → Nat} (hX : zCX σ s C) (hS : ∀ i, i < 4 → S i ≤ 12) (hS2 : ∀ i, i < 4 → zA σ 8 0 0 i = nI (S i)) : ∃ L, zwh (fun (q : (Int32 × Int32)) => f_X8_darkRooms_L5 σ s q.1 q.2) zFu (0, 13) = some (nI L) ∧ zLit C S 227 L := by
  have hz : ∃ t, zwh (fun (q : (Int32 × Int32)) => f_X8_darkRooms_L5 σ s q.1 q.2) zFu (0, 13) = some t ∧ ∃ L, t = nI L ∧ zLit C S 227 L := by
    refine zwh_ex (fun (i : Nat) (q : Int32 × Int32) => ∃ L, q = (nI L, nI (13 + i)) ∧ zLit C S (13 + i) L) _ 214 ⟨0, rfl, by decide, fun r => ?_⟩ (fun i q hi hq => ?_) (fun q hq => ?_) (by omega)
    · rw [Nat.zero_testBit]
      by_cases h1 : 1 ≤ r
      · rw [show (13 + 0 : Nat) = 13 from rfl, zlp_13 h1]
        simp
      · rw [decide_eq_false h1, Bool.false_and, Bool.false_and]
    · obtain ⟨L, rfl, hL⟩ := hq
      have hp : 13 + i < 240 := by omega
      have h15 := zBd_15 hX.1 hp
      obtain ⟨r, hr⟩ : ∃ r, r = zBd C (13 + i) := ⟨_, rfl⟩
      rw [← hr] at h15
      refine Or.inl ?_
      have hrun : f_X8_darkRooms_L5 σ s (nI L) (nI (13 + i)) = (if nI r < 1 then (f_X8_darkRooms_B57_5 σ s (nI L) (nI (13 + i))) else (if 12 < nI r then (f_X8_darkRooms_B57_5 σ s (nI L) (nI (13 + i))) else (if ((zushr (nI L) (nI r)) &&& 1) = 0 then ((f_X8_lightAt σ s (nI (13 + i))).bind fun r10 => if r10 ≤ 0 then (f_X8_darkRooms_B57_5 σ s (nI L) (nI (13 + i))) else (f_X8_darkRooms_B57_5 σ s (nI L ||| (1 <<< (nI r &&& 31))) (nI (13 + i)))) else (f_X8_darkRooms_B57_5 σ s (nI L) (nI (13 + i)))))) := by
        unfold f_X8_darkRooms_L5
        rw [if_neg (by rw [zq227, nI_leI (by omega) (by omega)]; omega), zthing hp, Option.bind_some, hX.2.1 _ hp, ← hr]
      have hsame : ∀ L', f_X8_darkRooms_B57_5 σ s (nI L') (nI (13 + i)) = some (.inl (nI L', nI (13 + (i + 1)))) := fun L' => by
        unfold f_X8_darkRooms_B57_5
        rw [nI_1]
        rfl
      by_cases c1 : r < 1
      · refine ⟨(nI L, nI (13 + (i + 1))), ?_, L, rfl, zLit_s (p := 13 + i) hL (fun w h1 _ hb _ => by omega)⟩
        refine hrun.trans ?_
        rw [if_pos (by rw [zq1, nI_ltI (by omega) (by omega)]; omega), hsame]
      · by_cases c2 : 12 < r
        · refine ⟨(nI L, nI (13 + (i + 1))), ?_, L, rfl, zLit_s (p := 13 + i) hL (fun w _ h12 hb _ => by omega)⟩
          refine hrun.trans ?_
          rw [if_neg (by rw [zq1, nI_ltI (by omega) (by omega)]; omega), if_pos (by rw [zq12, nI_ltI (by omega) (by omega)]; omega), hsame]
        · have hL16 : L < 65536 := by have := hL.1; omega
          by_cases c3 : L.testBit r = true
          · refine ⟨(nI L, nI (13 + (i + 1))), ?_, L, rfl, zLit_s (p := 13 + i) hL (fun w _ _ hb _ => by rw [← hb, ← hr]; exact c3)⟩
            refine hrun.trans ?_
            rw [if_neg (by rw [zq1, nI_ltI (by omega) (by omega)]; omega), if_neg (by rw [zq12, nI_ltI (by omega) (by omega)]; omega), if_neg (by rw [zbit0 hL16 (by omega), c3]; decide), hsame]
          · obtain ⟨hb1, hb2, hb3⟩ := zBd_in (C := C) (p := 13 + i) (r := r) (by omega) hr.symm
            have h4 := zce_pl _ hb3 hb1
            have hl := X8_lightAt hX hS hS2 h4.2
            rw [h4.1] at hl
            have b2 := zlg1_15 (C := C) (k := zce (13 + i)) hS (Nat.le_refl 4) (show 0 ≤ 12 by omega)
            have c3f : L.testBit r = false := by cases e : L.testBit r; rfl; exact absurd e c3
            by_cases c4 : 0 < zlg1 C S (zce (13 + i)) 4 0
            · refine ⟨(nI (L ||| 2 ^ r), nI (13 + (i + 1))), ?_, L ||| 2 ^ r, rfl, zLit_y (p := 13 + i) hL (by omega) (by omega) hr.symm c4⟩
              refine hrun.trans ?_
              rw [if_neg (by rw [zq1, nI_ltI (by omega) (by omega)]; omega), if_neg (by rw [zq12, nI_ltI (by omega) (by omega)]; omega), if_pos ((zbit0 hL16 (by omega)).mpr c3f), hl, Option.bind_some, if_neg (by rw [show (0 : Int32) = nI 0 from rfl, nI_leI (by omega) (by omega)]; omega), z1shl r (by omega), fa_or, hsame]
            · refine ⟨(nI L, nI (13 + (i + 1))), ?_, L, rfl, zLit_s (p := 13 + i) hL (fun w _ _ _ h => absurd h c4)⟩
              refine hrun.trans ?_
              rw [if_neg (by rw [zq1, nI_ltI (by omega) (by omega)]; omega), if_neg (by rw [zq12, nI_ltI (by omega) (by omega)]; omega), if_pos ((zbit0 hL16 (by omega)).mpr c3f), hl, Option.bind_some, if_pos (by rw [show (0 : Int32) = nI 0 from rfl, nI_leI (by omega) (by omega)]; omega), hsame]
    · obtain ⟨L, rfl, hL⟩ := hq
      refine ⟨nI L, ?_, L, rfl, hL⟩
      show f_X8_darkRooms_L5 σ s (nI L) (nI 227) = _
      unfold f_X8_darkRooms_L5
      rw [if_pos (show (227 : Int32) ≤ nI 227 by decide)]
  obtain ⟨t, h1, L, rfl, h2⟩ := hz
  exact ⟨L, h1, h2⟩
theorem zLgt_cnt {C S : Nat → Nat} {r : Nat} (h : 0 < zLgt C S r) : 0 < zcnt1 C r := by
  rcases Nat.eq_zero_or_pos (zcnt1 C r) with h0 | h0
  · have h2 : zLgt C S r ≤ 0 := zlgn_le.mpr (fun k hk e => absurd e (zcnt_no h0 k hk))
    omega
  · exact h0
theorem X8_dark {σ : zM} {s : Nat} {C S : Nat → Nat} (hX : zCX σ s C) (hS : ∀ i, i < 4 → S i ≤ 12) (hS2 : ∀ i, i < 4 → zA σ 8 0 0 i = nI (S i)) : f_X8_darkRooms σ s = some (nI (zdrk C S)) := by
  obtain ⟨L, w, hL⟩ := X8_dark1 hX hS hS2
  have hb : fb_ct (fun j => L.testBit j) 32 = fb_ct (fun r => decide (0 < zLgt C S (r + 1))) 12 := by
    rw [show (32 : Nat) = 1 + (12 + 19) from rfl, fb_ct_split, fb_ct_split]
    have e1 : fb_ct (fun j => L.testBit j) 1 = 0 := fb_ct_zero.mpr (fun k hk => by rw [hL.2 k, decide_eq_false (show ¬ 1 ≤ k by omega), Bool.false_and, Bool.false_and])
    have e2 : fb_ct (fun k => L.testBit (1 + (12 + k))) 19 = 0 := fb_ct_zero.mpr (fun k hk => by rw [hL.2, decide_eq_false (show ¬ 1 + (12 + k) ≤ 12 by omega), Bool.and_false, Bool.false_and])
    simp only [e1, e2, Nat.zero_add, Nat.add_zero]
    refine fb_ct_cong (fun k hk => ?_)
    show L.testBit (1 + k) = _
    rw [hL.2, zlp_all (show 1 ≤ 1 + k by omega), decide_eq_true (show 1 ≤ 1 + k by omega), decide_eq_true (show 1 + k ≤ 12 by omega), Nat.add_comm 1 k]
    rfl
  have hsum : zroo C = zdrk C S + fb_ct (fun r => decide (0 < zLgt C S (r + 1))) 12 := by
    unfold zroo zdrk
    rw [← fb_ct_or (fun k _ ⟨h1, h2⟩ => by
      rw [Bool.and_eq_true] at h1
      have := of_decide_eq_true h1.2
      have := of_decide_eq_true h2
      omega)]
    refine fb_ct_cong (fun k _ => ?_)
    by_cases h : 0 < zLgt C S (k + 1)
    · rw [decide_eq_true (zLgt_cnt h), decide_eq_true h, Bool.or_true]
    · rw [decide_eq_false h, decide_eq_true (show zLgt C S (k + 1) = 0 by omega), Bool.and_true, Bool.or_false]
  unfold f_X8_darkRooms f_X8_darkRooms_B63
  have := hL.1
  rw [w, Option.bind_some, X7_rooms hX, Option.bind_some, zbits32 (by omega), hb, hsum, zsubI (by omega)]
  congr 2
  omega
theorem X7_filled {σ : zM} {s : Nat} {C : Nat → Nat} (hX : zCX σ s C) : f_X7_allCells σ s = some (nI (zfil C 0 + zfil C 1)) ∧ f_X7_storeysWithCells σ s = some (nI ((if 0 < zfil C 0 then 1 else 0) + (if 0 < zfil C 1 then 1 else 0))) := by
  have b0 : zfil C 0 ≤ 80 := fb_ct_le _ _
  have b1 : zfil C 1 ≤ 80 := fb_ct_le _ _
  have z0 : zix 0 2 = some 0 := zix_n (n := 0) (by decide) (by decide)
  have z1 : zix 1 2 = some 1 := zix_n (n := 1) (by decide) (by decide)
  have i0 : ∀ x, x ≤ 80 → (if nI x ≤ 0 then 0 else 1 : Int32) = nI (if 0 < x then 1 else 0) := fun x hx => by
    by_cases h : 0 < x
    · rw [if_neg (by rw [show (0 : Int32) = nI 0 from rfl, nI_leI (by omega) (by omega)]; omega), if_pos h]; rfl
    · rw [if_pos (by rw [show (0 : Int32) = nI 0 from rfl, nI_leI (by omega) (by omega)]; omega), if_neg h]; rfl
  refine ⟨?_, ?_⟩
  · unfold f_X7_allCells
    rw [z0, z1, Option.bind_some, Option.bind_some, hX.2.2.2.1 0 (by decide), hX.2.2.2.1 1 (by decide), nI_add]
  · unfold f_X7_storeysWithCells
    rw [z0, z1, Option.bind_some, Option.bind_some, hX.2.2.2.1 0 (by decide), hX.2.2.2.1 1 (by decide), i0 _ b0, i0 _ b1, nI_add]
theorem X8_measure {σ : zM} {s o : Nat} {C S : Nat → Nat} {x4 t : Int32} (hX : zCX σ s C) (hS : ∀ i, i < 4 → S i ≤ 12) (hS2 : ∀ i, i < 4 → zA σ 8 0 0 i = nI (S i)) (ht : (if zI σ 7 s 1 = -1 then x4 else zI σ 7 s 1) = t) (c : Int32) : f_X8_measure σ c s o x4 = some (zMea C S (zA σ 0 o 5) (zA σ 0 o 6) t (zsub c)) := by
  unfold f_X8_measure zsub
  by_cases c7 : c = 7
  · rw [if_pos c7, if_neg (by rw [c7]; decide), if_pos c7, X7_cost hX, Option.bind_some]
    rfl
  rw [if_neg c7]
  by_cases c29 : c = 29
  · rw [if_pos c29, if_pos c29, (X7_filled hX).1, Option.bind_some]
    rfl
  rw [if_neg c29, if_neg c29, if_neg c7]
  by_cases c30 : c = 30
  · rw [if_pos c30, if_pos c30, show (13 : Int32) = nI 13 from rfl, X7_many hX (by decide) (by decide), Option.bind_some]
    rfl
  rw [if_neg c30, if_neg c30]
  by_cases c31 : c = 31
  · rw [if_pos c31, if_pos c31, show (14 : Int32) = nI 14 from rfl, X7_many hX (by decide) (by decide), Option.bind_some]
    rfl
  rw [if_neg c31, if_neg c31]
  by_cases c32 : c = 32
  · rw [if_pos c32, if_pos c32, X7_rooms hX, Option.bind_some]
    rfl
  rw [if_neg c32, if_neg c32]
  by_cases c33 : c = 33
  · rw [if_pos c33, if_pos c33, X8_dark hX hS hS2, Option.bind_some]
    rfl
  rw [if_neg c33, if_neg c33]
  by_cases c34 : c = 34
  · rw [if_pos c34, if_pos c34]
    have e : (if f_X7_isHandedIn σ s = 0 then f_X8_measure_B120 σ c s o x4 x4 else f_X8_measure_B120 σ c s o x4 (zI σ 7 s 1)) = f_X8_measure_B120 σ c s o x4 t := by
      unfold f_X7_isHandedIn
      rw [← ht]
      by_cases h : zI σ 7 s 1 = -1
      · rw [if_pos h, if_pos rfl, if_pos h]
      · rw [if_neg h, if_neg z10, if_neg h]
    rw [e]
    unfold f_X8_measure_B120
    rw [show (4 : Int32) = nI 4 from rfl, X0_term o (by decide), Option.bind_some]
    show _ = some (if zA σ 0 o 5 4 < t then 1 else 0)
    by_cases h : t ≤ zA σ 0 o 5 4
    · rw [if_pos h, if_neg (fun h2 => zlt_not.mp h2 h)]
    · rw [if_neg h, if_pos (zlt_not.mpr h)]
  rw [if_neg c34, if_neg c34, (X7_filled hX).2, Option.bind_some]
  rfl
/-! what is measured: the reference -/
theorem zfil_0c (C : Nat → Nat) : zcnt1 C 0 + (zfil C 0 + zfil C 1) = 160 := by
  have h := fb_ct_not (fun k => decide (C k = 0)) 160
  have e : fb_ct (fun k => !(decide (C k = 0))) 160 = zfil C 0 + zfil C 1 := by
    rw [show (160 : Nat) = 80 + 80 from rfl, fb_ct_split]
    unfold zfil
    have e1 : fb_ct (fun k => !(decide (C k = 0))) 80 = fb_ct (fun k => decide (C (80 * 0 + k) ≠ 0)) 80 := fb_ct_cong (fun k _ => by
      rw [Nat.mul_zero, Nat.zero_add]
      simp)
    have e2 : fb_ct (fun k => !(decide (C (80 + k) = 0))) 80 = fb_ct (fun k => decide (C (80 * 1 + k) ≠ 0)) 80 := fb_ct_cong (fun k _ => by
      rw [Nat.mul_one]
      simp)
    rw [e1, e2]
  unfold zcnt1
  omega
theorem zle0I {x : Nat} (hx : x < 2147483648) : (if nI x ≤ 0 then 0 else 1 : Int32) = nI (if 0 < x then 1 else 0) := by
  by_cases h : 0 < x
  · rw [if_neg (by rw [show (0 : Int32) = nI 0 from rfl, nI_leI (by omega) (by omega)]; omega), if_pos h]; rfl
  · rw [if_pos (by rw [show (0 : Int32) = nI 0 from rfl, nI_leI (by omega) (by omega)]; omega), if_neg h]; rfl
theorem zone (b : Bool) : f_X12_one (if b then 1 else 0) = nI (if b then 1 else 0) := by cases b <;> rfl
theorem zone01 {n : Nat} (h : n ≤ 1) : f_X12_one (nI n) = nI n := by
  have : n = 0 ∨ n = 1 := by omega
  rcases this with rfl | rfl <;> rfl
theorem X12_word7 {σ : zM} {s t : Nat} {C : Nat → Nat} {x2 x3 y4 : Int32} (hR : zRC σ s C) (hs : s < 10) (ht : t < 2) : zwh (fun (q : (Int32 × Int32)) => f_X12_word_L236 σ (nI s) x2 x3 y4 (nI t) q.1 q.2) zFu (0, (80 * nI t)) = some (nI (if 0 < zfil C t then 1 else 0)) := by
  have hw := zwh_up (f := fun (q : (Int32 × Int32)) => f_X12_word_L236 σ (nI s) x2 x3 y4 (nI t) q.1 q.2) (fun i => (nI (if 0 < fb_ct (fun k => decide (C (80 * t + k) ≠ 0)) i then 1 else 0), nI (80 * t + i))) 80 (t := nI (if 0 < zfil C t then 1 else 0)) ?_ ?_ (by omega)
  · rw [zq80, zmulI]
    exact hw
  · intro i hi
    show f_X12_word_L236 σ (nI s) x2 x3 y4 (nI t) (nI (if 0 < fb_ct (fun k => decide (C (80 * t + k) ≠ 0)) i then 1 else 0)) (nI (80 * t + i)) = some (.inl (nI (if 0 < fb_ct (fun k => decide (C (80 * t + k) ≠ 0)) (i + 1) then 1 else 0), nI (80 * t + (i + 1))))
    unfold f_X12_word_L236 f_X12_word_B264_236 f_X12_word_B269_236
    rw [zq80, zmulI, nI_add, if_neg (by rw [nI_leI (by omega) (by omega)]; omega), nI_1, fb_ct_succ]
    have hC := (hR (80 * t + i) (by omega)).1
    by_cases h : 0 < fb_ct (fun k => decide (C (80 * t + k) ≠ 0)) i
    · rw [if_pos h, if_neg (show ¬ nI 1 = 0 from z10), if_pos (by omega)]
      rfl
    · rw [if_neg h, if_pos (show nI 0 = 0 from rfl), X12_at_C hR hs (show 80 * t + i < 160 by omega), Option.bind_some, zle0I (by omega)]
      by_cases h2 : C (80 * t + i) = 0
      · rw [if_neg (show ¬ 0 < C (80 * t + i) by omega), if_neg (show ¬ (decide (C (80 * t + i) ≠ 0)) = true by simp [h2]), if_neg (by omega)]
        rfl
      · rw [if_pos (show 0 < C (80 * t + i) by omega), if_pos (decide_eq_true h2), if_pos (by omega)]
        rfl
  · show f_X12_word_L236 σ (nI s) x2 x3 y4 (nI t) _ (nI (80 * t + 80)) = _
    unfold f_X12_word_L236
    rw [zq80, zmulI, nI_add, if_pos (nI_le (Nat.le_refl _) (by omega))]
    rfl
theorem X12_word {σ : zM} {s : Nat} {C : Nat → Nat} {t : Int32} (hB : iBri σ) (hSun : iSun σ) (hR : zRC σ s C) (hs : s < 10) (ht : zdt σ s = t) {w : Nat} (hw8 : w < 8) : f_X12_word σ (nI s) (zOx (zOn σ t)) (nI w) = some (zMea C (zSn σ) (zA σ 0 (zOn σ t) 5) (zA σ 0 (zOn σ t) 6) t w) := by
  obtain ⟨u1, u2, u3⟩ := zSun_x hSun
  have hne : ∀ a : Nat, a < 8 → (nI w = nI a ↔ w = a) := fun a ha => nI_eq (by omega) (by omega)
  unfold f_X12_word
  have b0 := zfil_0c C
  have : w = 0 ∨ w = 1 ∨ w = 2 ∨ w = 3 ∨ w = 4 ∨ w = 5 ∨ w = 6 ∨ w = 7 := by omega
  rcases this with rfl | rfl | rfl | rfl | rfl | rfl | rfl | rfl
  · rw [if_pos (show nI 0 = 0 from rfl), show (0 : Int32) = nI 0 from rfl, X12_many hR hs (by decide), Option.bind_some, zq160, zsubI (by omega)]
    show some (nI (160 - zcnt1 C 0)) = some (nI (zfil C 0 + zfil C 1))
    congr 2
    omega
  · rw [if_neg (by decide), if_pos (show nI 1 = 1 from rfl), X12_cost hB t hR hs, Option.bind_some]
    rfl
  · rw [if_neg (by decide), if_neg (by decide), if_pos (show nI 2 = 2 from rfl), show (13 : Int32) = nI 13 from rfl, X12_many hR hs (by decide), Option.bind_some]
    rfl
  · rw [if_neg (by decide), if_neg (by decide), if_neg (by decide), if_pos (show nI 3 = 3 from rfl), show (14 : Int32) = nI 14 from rfl, X12_many hR hs (by decide), Option.bind_some]
    rfl
  · rw [if_neg (by decide), if_neg (by decide), if_neg (by decide), if_neg (by decide), if_pos (show nI 4 = 4 from rfl)]
    have hw := zwh_up (f := fun (q : (Int32 × Int32)) => f_X12_word_L85 σ (nI s) (zOx (zOn σ t)) (nI 4) q.1 q.2) (fun i => (nI (fb_ct (fun r => decide (0 < zcnt1 C (r + 1))) i), nI (i + 1))) 12 (t := nI (zroo C)) ?_ ?_ (by omega)
    · rw [show ((0 : Int32), (1 : Int32)) = (fun i => (nI (fb_ct (fun r => decide (0 < zcnt1 C (r + 1))) i), nI (i + 1))) 0 from rfl, hw, Option.bind_some]
      rfl
    · intro i hi
      show f_X12_word_L85 σ (nI s) (zOx (zOn σ t)) (nI 4) (nI (fb_ct (fun r => decide (0 < zcnt1 C (r + 1))) i)) (nI (i + 1)) = some (.inl (nI (fb_ct (fun r => decide (0 < zcnt1 C (r + 1))) i + (if decide (0 < zcnt1 C (i + 1)) then 1 else 0)), nI (i + 1 + 1)))
      have hc : zcnt1 C (i + 1) ≤ 160 := fb_ct_le _ _
      unfold f_X12_word_L85
      rw [if_neg (by rw [zq12, nI_ltI (by omega) (by omega)]; omega), X12_many hR hs (by omega), Option.bind_some, zle0I (by omega), zone01 (by split <;> omega), nI_add, nI_1]
      congr 5
      by_cases h : 0 < zcnt1 C (i + 1)
      · rw [if_pos h, if_pos (decide_eq_true h)]
      · rw [if_neg h, if_neg (by rw [decide_eq_false h]; decide)]
    · show f_X12_word_L85 σ (nI s) (zOx (zOn σ t)) (nI 4) _ (nI 13) = _
      unfold f_X12_word_L85
      rw [if_pos (show (12 : Int32) < nI 13 by decide)]
      rfl
  · rw [if_neg (by decide), if_neg (by decide), if_neg (by decide), if_neg (by decide), if_neg (by decide), if_pos (show nI 5 = 5 from rfl)]
    have hw := zwh_up (f := fun (q : (Int32 × Int32)) => f_X12_word_L127 σ (nI s) (zOx (zOn σ t)) (nI 5) q.1 q.2) (fun i => (nI (fb_ct (fun r => decide (0 < zcnt1 C (r + 1)) && decide (zLgt C (zSn σ) (r + 1) = 0)) i), nI (i + 1))) 12 (t := nI (zdrk C (zSn σ))) ?_ ?_ (by omega)
    · rw [show ((0 : Int32), (1 : Int32)) = (fun i => (nI (fb_ct (fun r => decide (0 < zcnt1 C (r + 1)) && decide (zLgt C (zSn σ) (r + 1) = 0)) i), nI (i + 1))) 0 from rfl, hw, Option.bind_some]
      rfl
    · intro i hi
      show f_X12_word_L127 σ (nI s) (zOx (zOn σ t)) (nI 5) (nI (fb_ct (fun r => decide (0 < zcnt1 C (r + 1)) && decide (zLgt C (zSn σ) (r + 1) = 0)) i)) (nI (i + 1)) = some (.inl (nI (fb_ct (fun r => decide (0 < zcnt1 C (r + 1)) && decide (zLgt C (zSn σ) (r + 1) = 0)) i + (if (decide (0 < zcnt1 C (i + 1)) && decide (zLgt C (zSn σ) (i + 1) = 0)) then 1 else 0)), nI (i + 1 + 1)))
      have hc : zcnt1 C (i + 1) ≤ 160 := fb_ct_le _ _
      unfold f_X12_word_L127 f_X12_word_B160_127 f_X12_word_B161_127
      rw [if_neg (by rw [zq12, nI_ltI (by omega) (by omega)]; omega), X12_many hR hs (by omega), Option.bind_some, nI_1]
      by_cases h : 0 < zcnt1 C (i + 1)
      · have hl : zLgt C (zSn σ) (i + 1) ≤ 12 := zlgn_15 u1 160
        rw [if_neg (by rw [show (0 : Int32) = nI 0 from rfl, nI_leI (by omega) (by omega)]; omega), X12_light hR hs u1 u3 (by omega), Option.bind_some, decide_eq_true h, Bool.true_and]
        by_cases h2 : zLgt C (zSn σ) (i + 1) = 0
        · rw [if_pos (show nI (zLgt C (zSn σ) (i + 1)) = 0 by rw [h2]; rfl), if_pos (decide_eq_true h2)]
          show some (Sum.inl (_ + 1, _)) = _
          rw [nI_1]
        · rw [if_neg (show ¬ nI (zLgt C (zSn σ) (i + 1)) = 0 by rw [show (0 : Int32) = nI 0 from rfl, nI_eq (by omega) (by omega)]; exact h2), if_neg (by rw [decide_eq_false h2]; decide)]
          show some (Sum.inl (_ + 0, _)) = _
          rw [Int32.add_zero]
          rfl
      · rw [if_pos (by rw [show (0 : Int32) = nI 0 from rfl, nI_leI (by omega) (by omega)]; omega), decide_eq_false h, Bool.false_and, if_neg (by decide)]
        show some (Sum.inl (_ + 0, _)) = _
        rw [Int32.add_zero]
        rfl
    · show f_X12_word_L127 σ (nI s) (zOx (zOn σ t)) (nI 5) _ (nI 13) = _
      unfold f_X12_word_L127
      rw [if_pos (show (12 : Int32) < nI 13 by decide)]
      rfl
  · rw [if_neg (by decide), if_neg (by decide), if_neg (by decide), if_neg (by decide), if_neg (by decide), if_neg (by decide), if_pos (show nI 6 = 6 from rfl), zix_n hs (by omega), Option.bind_some, Option.bind_some]
    have e : (if zA σ 12 0 5 s = -1 then f_X12_word_B199 σ (nI s) (zOx (zOn σ t)) (nI 6) (zI σ 12 0 0) else f_X12_word_B199 σ (nI s) (zOx (zOn σ t)) (nI 6) (zA σ 12 0 5 s)) = f_X12_word_B199 σ (nI s) (zOx (zOn σ t)) (nI 6) t := by
      rw [← ht]
      unfold zdt
      by_cases h : zA σ 12 0 5 s = -1
      · rw [if_pos h, if_pos h]
      · rw [if_neg h, if_neg h]
    rw [e]
    unfold f_X12_word_B199
    rw [show (4 : Int32) = nI 4 from rfl, X12_tells hB t (by decide), Option.bind_some]
    show _ = some (if zA σ 0 (zOn σ t) 5 4 < t then 1 else 0)
    by_cases h : t ≤ zA σ 0 (zOn σ t) 5 4
    · rw [if_pos h, if_neg (fun h2 => zlt_not.mp h2 h)]
      rfl
    · rw [if_neg h, if_pos (zlt_not.mpr h)]
      rfl
  · rw [if_neg (by decide), if_neg (by decide), if_neg (by decide), if_neg (by decide), if_neg (by decide), if_neg (by decide), if_neg (by decide)]
    have hw := zwh_up (f := fun (q : (Int32 × Int32)) => f_X12_word_L220 σ (nI s) (zOx (zOn σ t)) (nI 7) q.1 q.2) (fun i => (nI (fb_sm (fun t => if 0 < zfil C t then 1 else 0) i), nI i)) 2 (t := nI (fb_sm (fun t => if 0 < zfil C t then 1 else 0) 2)) ?_ ?_ (by omega)
    · rw [show ((0 : Int32), (0 : Int32)) = (fun i => (nI (fb_sm (fun t => if 0 < zfil C t then 1 else 0) i), nI i)) 0 from rfl, hw, Option.bind_some]
      show some (nI (0 + (if 0 < zfil C 0 then 1 else 0) + (if 0 < zfil C 1 then 1 else 0))) = some (nI ((if 0 < zfil C 0 then 1 else 0) + (if 0 < zfil C 1 then 1 else 0)))
      rw [Nat.zero_add]
    · intro i hi
      show f_X12_word_L220 σ (nI s) (zOx (zOn σ t)) (nI 7) (nI (fb_sm (fun t => if 0 < zfil C t then 1 else 0) i)) (nI i) = some (.inl (nI (fb_sm (fun t => if 0 < zfil C t then 1 else 0) i + (if 0 < zfil C i then 1 else 0)), nI (i + 1)))
      unfold f_X12_word_L220 f_X12_word_B277_220
      rw [if_neg (by rw [zq2, nI_leI (by omega) (by omega)]; omega), X12_word7 hR hs hi, Option.bind_some, zone01 (by split <;> omega), nI_add, nI_1]
    · show f_X12_word_L220 σ (nI s) (zOx (zOn σ t)) (nI 7) _ (nI 2) = _
      unfold f_X12_word_L220
      rw [if_pos (show (2 : Int32) ≤ nI 2 by decide)]
