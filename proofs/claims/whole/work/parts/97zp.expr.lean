/-! expressions: a whole chain -/
theorem zJ_whole {T : Nat → Nat} {n N : Nat} {W : Nat → List Nat} {k0 pd t o C d D L e δ ty w : Nat} {op kd : Int32} {rc : Nat → zM → Int32 → Option (Int32 × zM)} {rr : Nat → zM → Option (Int32 × zM)} {fc fr : zM → Option (Int32 × zM)} {f : Bool → Bool → Bool} {comb : List (Nat × ((Nat → Int32) → Bool)) → (Nat → Int32) → Bool}
    (hfc : ∀ σ, fc σ = (rc ty σ (nI d)).bind fun q1 => (zwh (fun (q : (Int32 × Int32 × zM)) => zStC rc ty w op (nI d) q.1 q.2.1 q.2.2) zFu (q1.1, 0, q1.2)).bind fun q => (zck (decide (q.1 = 0 ∨ q.1 = 1))).bind fun _ => some (q.1, q.2))
    (hfr : ∀ σ, fr σ = (f_X12_node σ kd).bind fun q1 => (zwh (fun (q : (Int32 × zM)) => zStR rr ty w q1.1 q.1 q.2) zFu ((-1), q1.2)).bind fun q => zsm q (fun q => some ((-1), q)) (fun q => some (q1.1, q)))
    (hop : ∀ l1 l2 V1 V2, zCo l1 V1 (D + 1) → zCo l2 V2 D → zCo (l1 ++ l2 ++ [op]) (fun m => f (V1 m) (V2 m)) (D + 1))
    (hcb : ∀ cs q, (fun m => f (comb cs m) (q.2 m)) = comb (cs ++ [q])) (hc1 : ∀ q, comb [q] = q.2)
    (hnx : ∀ (ND : zND) M lo p cs, lo ≤ p → p < M → ND.1 p = kd → zChn ND.2.2.1 (ND.2.1 p) (cs.map (·.1)) → cs.length ≤ 900 → (∀ c ∈ cs, zNx ND M L (p + 1) c.1 c.2) → zNx ND M (L + 1) lo p (comb cs))
    (hw : w < 36) (hwl : 2 ≤ (zLq w).length) (ho : o < 7) (hC : C ≤ 4455) (hd : d ≤ 10) (hδ : 1 ≤ δ ∧ δ ≤ 2) (he : 1 ≤ e)
    (ih : zIH T n N W k0 pd t o C (fun σ => rc ty σ (nI d)) (fun σ => rr ty σ) d D L e δ) : zIH T n N W k0 pd t o C fc fr d (D + 1) (L + 1) (e - 1) (δ - 1) := by
  intro σ σ' i c m h0 hm hX
  obtain ⟨hP, hP', hR, h8, h18, h22⟩ := id hX
  have hn9 := hP'.1.1.1
  have hSi := (zTs_fix (T := T) (n := n) i).1
  have hm5 : m < 5400 := by omega
  obtain ⟨σa, hσa⟩ : ∃ x, x = zsI (zsA (zsA (zsA σ' 12 0 31 m kd) 12 0 32 m (-1)) 12 0 33 m (-1)) 12 0 18 (nI (m + 1)) := ⟨_, rfl⟩
  have xa : zEx [(12, 31), (12, 32), (12, 33), (12, 18)] σ' σa := by
    rw [hσa]
    exact (((zEx_sA (by decide)).tr (zEx_sA (by decide))).tr (zEx_sA (by decide))).tr (zEx_sI (by decide))
  have ba : zBel (znd σ') (znd σa) m := by
    rw [hσa]
    exact (((zbel_s (Nat.le_refl _)).tr (zbel_s (Nat.le_refl _)) (Nat.le_refl _)).tr (zbel_s (Nat.le_refl _)) (Nat.le_refl _)).tr (zbel_x (F := [(12, 18)]) (zEx_sI (by decide)) (by decide)) (Nat.le_refl _)
  have a31 : zA σa 12 0 31 m = kd := by
    rw [hσa]
    show zA (zsA (zsA (zsA σ' 12 0 31 m kd) 12 0 32 m (-1)) 12 0 33 m (-1)) 12 0 31 m = _
    rw [zA_sA, if_neg (by decide), zA_sA, if_neg (by decide), zA_sA, if_pos ⟨rfl, rfl, rfl⟩, zu_eq]
  have a33 : zA σa 12 0 33 m = -1 := by
    rw [hσa]
    show zA (zsA (zsA (zsA σ' 12 0 31 m kd) 12 0 32 m (-1)) 12 0 33 m (-1)) 12 0 33 m = _
    rw [zA_sA, if_pos ⟨rfl, rfl, rfl⟩, zu_eq]
  have Xa : zXp σ σa T n N i W k0 pd t o c (m + 1) d := ⟨hP, zPR_x hP' xa (by decide), hR, h8, by rw [hσa]; rfl, (xa.1 12 0 22 (by decide)).trans h22⟩
  have hr0 : fr σ' = (zwc (fun (q : (Int32 × zM)) => zStR rr ty w (nI m) q.1 q.2) 99999 (zStR rr ty w (nI m) (-1) σa)).bind fun q => zsm q (fun q => some ((-1), q)) (fun q => some (nI m, q)) := by
    have hz : zFu = 99999 + 1 := rfl
    rw [hfr, X12_nd h18 hm5, Option.bind_some, ← hσa, hz, zwc_s]
  rcases ih σ σa i c (m + 1) h0 (by omega) Xa with ⟨σ2, σ2', i2, c2, m2, node, U, a1, a2, b1, b2, b3, b4, b5, b6, b7, b8, b9, b10, b11, b12, b13, b14⟩ | ⟨σ2, σ2', i2, a1, a2, b1, b2, b3, b4, b5, b6⟩
  · have a1' : rc ty σ (nI d) = some (1, σ2) := a1
    have a2' : rr ty σa = some (nI node, σ2') := a2
    have hi2 : i < i2 := zTs_rev (T := T) (n := n) (by omega)
    have hnb := zNx_b b13
    have hS2 := (zTs_fix (T := T) (n := n) i2).1
    obtain ⟨p2, p2', R2, h82, h182, h222⟩ := b4
    obtain ⟨σ3', hσ3'⟩ : ∃ x, x = zsA σ2' 12 0 32 m (nI node) := ⟨_, rfl⟩
    have x3' : zEx [(12, 32)] σ2' σ3' := by rw [hσ3']; exact zEx_sA (by decide)
    have bl3 : zBel (znd σ2') (znd σ3') m := by rw [hσ3']; exact zbel_s (Nat.le_refl _)
    obtain ⟨m31, -, m33, -⟩ := b8 m (Nat.lt_succ_self m)
    have eO : ∀ kk, kk ≠ 32 → zA σ3' 12 0 kk = zA σ2' 12 0 kk := fun kk hkk => by
      rw [hσ3', zA_sA, if_neg (fun e => hkk e.2.2)]
    have e32 : ∀ x, x ≠ m → zA σ3' 12 0 32 x = zA σ2' 12 0 32 x := fun x hx => by
      rw [hσ3', zA_sA, if_pos ⟨rfl, rfl, rfl⟩, zu_ne _ _ hx]
    have nx3 : zNx (znd σ3') m2 L (m + 1) node U := zNx_ag (N := znd σ2') (N' := znd σ3') (Nat.le_refl _) (fun j hj _ => ⟨congrFun (eO 31 (by decide)) j, e32 j (by omega), congrFun (eO 34 (by decide)) j, congrFun (eO 35 (by decide)) j, congrFun (eO 36 (by decide)) j⟩) (fun j _ _ => congrFun (eO 33 (by decide)) j) b13
    have ch3 : zChd σ3' m2 L m node kd [(node, U)] := by
      refine ⟨by omega, ?_, ?_, ⟨[], rfl, fun x hx => by cases hx⟩, ?_, fun q hq => ?_⟩
      · rw [eO 31 (by decide)]
        exact m31.trans a31
      · rw [eO 33 (by decide)]
        exact m33.trans a33
      · show zA σ3' 12 0 32 m = nI node ∧ zA σ3' 12 0 33 node = -1
        refine ⟨by rw [hσ3', zA_sA, if_pos ⟨rfl, rfl, rfl⟩, zu_eq], ?_⟩
        rw [eO 33 (by decide)]
        exact b14
      · rw [List.mem_singleton.mp hq]
        exact ⟨nx3, fun h => absurd rfl h⟩
    have X3 : zXp σ2 σ3' T n N i2 W k0 pd t o c2 m2 d := ⟨p2, zPR_x p2' x3' (by decide), R2, h82, (x3'.1 12 0 18 (by decide)).trans h182, (x3'.1 12 0 22 (by decide)).trans h222⟩
    have hr1 : fr σ' = (zwc (fun (q : (Int32 × zM)) => zStR rr ty w (nI m) q.1 q.2) 99999 (zStB w σ3' (nI node))).bind fun q => zsm q (fun q => some ((-1), q)) (fun q => some (nI m, q)) := by
      rw [hr0]
      unfold zStR
      rw [a2', Option.bind_some]
      show (zwc _ 99999 (if nI node = -1 then _ else (if (-1 : Int32) = (-1) then ((zix (nI m) 5400).bind fun i12 => zlt (zsA σ2' 12 0 32 i12 (nI node)) fun σ13 => zStB w σ13 (nI node)) else _))).bind _ = _
      rw [if_neg (znI_m1 (by omega)), if_pos rfl, zix_n hm5 (by omega), Option.bind_some, zlt_e, ← hσ3']
    have hN9 := hP.1.1.1
    rcases zJ_chain (Lc := fun (q : (Int32 × Int32 × zM)) => zStC rc ty w op (nI d) q.1 q.2.1 q.2.2) (Lr := fun (q : (Int32 × zM)) => zStR rr ty w (nI m) q.1 q.2) (fun _ _ _ => rfl) (fun _ _ => rfl) hop hcb hw hwl ho hC hd hδ he ih h0 hm (N - i2) σ2 σ3' i2 c2 m2 1 node [(node, U)] (by omega) (Nat.le_refl _) (by omega) rfl X3 ch3 b6 (by rw [hc1]; exact zCo_up b12 (by omega)) (by omega) (by omega) zFu 99999 (by show _ ≤ 100000; omega) (by omega) with ⟨σ4, σ4', i4, c4, m4, l4, cs4, d1, d2, d3, d4, d5, d6, d7, d8, d9, d10, d11, d12, d13, d14, d15, d16⟩ | ⟨σ4, σ4', i4, d1, d2, d3, d4, d5, d6, d7, d8⟩
    · left
      obtain ⟨c1, c2', c3, c4', c5, c6⟩ := d13
      refine ⟨σ4, σ4', i4, c4, m4, m, comb cs4, ?_, ?_, b1.tr d3, ?_, b3.tr d5, d6, by omega, by omega, fun x hx => by rw [d9 x (by omega), b7 x hx], ((ba.tr (fun x hx => b8 x (by omega)) (Nat.le_refl _)).tr bl3 (Nat.le_refl _)).tr d10 (Nat.le_refl _), by omega, by omega, d15, d14, ?_, c3⟩
      · rw [hfc, a1', Option.bind_some]
        show ((zwh _ zFu (1, nI (1 - 1), σ2)).bind _) = _
        rw [d1, Option.bind_some]
        rfl
      · rw [hr1, d2, Option.bind_some]
        rfl
      · exact (xa.mo (by decide)).tr (b2.tr ((x3'.mo (by decide)).tr d4))
      · exact hnx (znd σ4') m4 m m cs4 (Nat.le_refl _) c1 c2' c5 d12 (fun q hq => (c6 q hq).1)
    · right
      refine ⟨σ4, σ4', i4, ?_, ?_, b1.tr d3, (xa.mo (by decide)).tr (b2.tr ((x3'.mo (by decide)).tr d4)), b3.tr d5, d6, d7, ((ba.tr (fun x hx => b8 x (by omega)) (Nat.le_refl _)).tr bl3 (Nat.le_refl _)).tr d8 (Nat.le_refl _)⟩
      · rw [hfc, a1', Option.bind_some]
        show ((zwh _ zFu (1, nI (1 - 1), σ2)).bind _) = _
        rw [d1, Option.bind_some]
        rfl
      · rw [hr1, d2, Option.bind_some]
        rfl
  · right
    have a1' : rc ty σ (nI d) = some (0, σ2) := a1
    have a2' : rr ty σa = some (-1, σ2') := a2
    refine ⟨σ2, σ2', i2, ?_, ?_, b1, (xa.mo (by decide)).tr b2, b3, b4, b5, ba.tr (fun x hx => b6 x (by omega)) (Nat.le_refl _)⟩
    · rw [hfc, a1', Option.bind_some]
      show ((zwh (fun (q : (Int32 × Int32 × zM)) => zStC rc ty w op (nI d) q.1 q.2.1 q.2.2) zFu (0, 0, σ2)).bind _) = _
      rw [zwh_now (t := ((0 : Int32), σ2)) (by
        show zStC rc ty w op (nI d) 0 0 σ2 = _
        unfold zStC
        rw [if_neg (by decide), if_pos rfl]), Option.bind_some]
      rfl
    · rw [hr0]
      unfold zStR
      rw [a2', Option.bind_some]
      rfl
