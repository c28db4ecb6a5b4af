/-! expressions: a chain of parts, by both -/
def zStC (rc : Nat → zM → Int32 → Option (Int32 × zM)) (ty w : Nat) (op x1 y2 y3 : Int32) (σ : zM) : Option ((Int32 × Int32 × zM) ⊕ (Int32 × zM)) := if 900 ≤ y3 then (some (.inr (y2, σ))) else (if y2 = 0 then (some (.inr (y2, σ))) else ((f_X4_takeWord σ (nI w)).bind fun q5 => if q5.1 = 0 then (some (.inr (y2, q5.2))) else ((rc ty q5.2 x1).bind fun q8 => if q8.1 = 0 then (some (.inl (0, (y3 + 1), q8.2))) else (znu (zR q8.2 4 0 7) none (fun j11 => (f_X0_emit q8.2 j11 op).bind fun q13 => some (.inl ((if q13.1 = 0 then 0 else 1 : Int32), (y3 + 1), q13.2)))))))
def zStB (w : Nat) (σ : zM) (y : Int32) : Option ((Int32 × zM) ⊕ (zM ⊕ zM)) := (f_X12_takes σ (zW8t w)).bind fun q9 => if q9.1 = 0 then (some (.inr (.inr q9.2))) else (some (.inl (y, q9.2)))
def zStR (rr : Nat → zM → Option (Int32 × zM)) (ty w : Nat) (y1 y2 : Int32) (σ : zM) : Option ((Int32 × zM) ⊕ (zM ⊕ zM)) := (rr ty σ).bind fun q3 => if q3.1 = (-1) then (some (.inr (.inl q3.2))) else (if y2 = (-1) then ((zix y1 5400).bind fun i12 => zlt (zsA q3.2 12 0 32 i12 q3.1) fun σ13 => zStB w σ13 q3.1) else ((zix y2 5400).bind fun i7 => zlt (zsA q3.2 12 0 33 i7 q3.1) fun σ8 => zStB w σ8 q3.1))
theorem zStC_any {rc : Nat → zM → Int32 → Option (Int32 × zM)} {x1 y2 y3 : Int32} {σ : zM} : f_X4_any_L8 rc x1 y2 y3 σ = zStC rc 1 21 (-2) x1 y2 y3 σ := rfl
theorem zStC_all {rc : Nat → zM → Int32 → Option (Int32 × zM)} {x1 y2 y3 : Int32} {σ : zM} : f_X4_all_L8 rc x1 y2 y3 σ = zStC rc 2 22 (-1) x1 y2 y3 σ := rfl
theorem zStR_any {rr : Nat → zM → Option (Int32 × zM)} {y1 y2 : Int32} {σ : zM} : f_X12_any_L8 rr y1 y2 σ = zStR rr 1 21 y1 y2 σ := by
  unfold zStR zStB f_X12_any_L8 f_X12_any_B42_8
  rw [z8_21]
theorem zStR_all {rr : Nat → zM → Option (Int32 × zM)} {y1 y2 : Int32} {σ : zM} : f_X12_all_L8 rr y1 y2 σ = zStR rr 2 22 y1 y2 σ := by
  unfold zStR zStB f_X12_all_L8 f_X12_all_B42_8
  rw [z8_22]
/-- what goes on behind a step -/
def zwc {S T : Type} (f : S → Option (S ⊕ T)) (k : Nat) (x : Option (S ⊕ T)) : Option T := x.bind fun r => match r with
  | .inl s' => zwh f k s'
  | .inr t => some t
theorem zwc_s {S T : Type} {f : S → Option (S ⊕ T)} {k : Nat} {s : S} : zwh f (k + 1) s = zwc f k (f s) := rfl
/-- a part of an expression, read by both: as they are called -/
def zIH (T : Nat → Nat) (n N : Nat) (W : Nat → List Nat) (k0 pd t o C : Nat) (fc : zM → Option (Int32 × zM)) (fr : zM → Option (Int32 × zM)) (d D L e δ : Nat) : Prop := ∀ σ σ' i c m, 3 * c + 5 ≤ zTs T n i → m ≤ C + zTs T n i + d + δ → zXp σ σ' T n N i W k0 pd t o c m d → zXR (fc σ) (fr σ') σ σ' T n N i W k0 pd t o c m d D L e
/-- what a chain of parts has come to: the node p, its parts cs, the last one l -/
def zChd (σr : zM) (m L p l : Nat) (kd : Int32) (cs : List (Nat × ((Nat → Int32) → Bool))) : Prop := p < m ∧ zA σr 12 0 31 p = kd ∧ zA σr 12 0 33 p = -1 ∧ (∃ ks, cs.map (·.1) = ks ++ [l] ∧ ∀ x ∈ ks, x < l) ∧ zChn (zA σr 12 0 33) (zA σr 12 0 32 p) (cs.map (·.1)) ∧ ∀ q ∈ cs, zNx (znd σr) m L (p + 1) q.1 q.2 ∧ (q.1 ≠ l → zNx (znd σr) l L (p + 1) q.1 q.2)
theorem zChd_l {σ : zM} {m L p l : Nat} {kd : Int32} {cs : List (Nat × ((Nat → Int32) → Bool))} (h : zChd σ m L p l kd cs) : p + 1 ≤ l ∧ l < m := by
  obtain ⟨h1, h2, h3, ⟨ks, h4, h4'⟩, h5, h6⟩ := h
  have : l ∈ cs.map (·.1) := by rw [h4]; exact List.mem_append_right _ List.mem_cons_self
  obtain ⟨q, hq, e⟩ := List.mem_map.mp this
  rw [← e]
  exact zNx_b (h6 q hq).1
theorem zChd_b {σ σ' : zM} {m L p l : Nat} {kd : Int32} {cs : List (Nat × ((Nat → Int32) → Bool))} (h : zChd σ m L p l kd cs) (hb : zBel (znd σ) (znd σ') m) : zChd σ' m L p l kd cs := by
  have hl := zChd_l h
  obtain ⟨h1, h2, h3, h4, h5, h6⟩ := h
  obtain ⟨b1, b2, b3, -⟩ := hb p h1
  have hc : ∀ q ∈ cs, q.1 < m := fun q hq => (zNx_b (h6 q hq).1).2
  have hag : ∀ M, M ≤ m → zAg (znd σ) (znd σ') (p + 1) M := fun M hM j _ hj => by
    obtain ⟨a1, a2, a3, a4, a5, a6⟩ := hb j (by omega)
    exact ⟨a1, a2, a4, a5, a6⟩
  refine ⟨h1, b1.trans h2, b3.trans h3, h4, ?_, fun q hq => ⟨zNx_ag (Nat.le_refl _) (hag m (Nat.le_refl _)) (fun j _ hj => (hb j hj).2.2.1) (h6 q hq).1, fun hne => zNx_ag (Nat.le_refl _) (hag l (by omega)) (fun j _ hj => (hb j (by omega)).2.2.1) ((h6 q hq).2 hne)⟩⟩
  rw [show zA σ' 12 0 32 p = zA σ 12 0 32 p from b2]
  refine zChn_cong (fun x hx => ?_) h5
  obtain ⟨q, hq, rfl⟩ := List.mem_map.mp hx
  exact (hb q.1 (hc q hq)).2.2.1
/-- one more part comes to the chain -/
theorem zChd_app {σ : zM} {m m' L p l k : Nat} {kd : Int32} {cs : List (Nat × ((Nat → Int32) → Bool))} {U : (Nat → Int32) → Bool} (h : zChd σ m L p l kd cs) (hk : zNx (znd σ) m' L m k U) (hk33 : zA σ 12 0 33 k = -1) : zChd (zsA σ 12 0 33 l (nI k)) m' L p k kd (cs ++ [(k, U)]) ∧ zBel (znd σ) (znd (zsA σ 12 0 33 l (nI k))) l := by
  have hl := zChd_l h
  have hkb := zNx_b hk
  obtain ⟨h1, h2, h3, ⟨ks, h4, h4'⟩, h5, h6⟩ := h
  have e33 : ∀ x, x ≠ l → zA (zsA σ 12 0 33 l (nI k)) 12 0 33 x = zA σ 12 0 33 x := fun x hx => by
    rw [zA_sA, if_pos ⟨rfl, rfl, rfl⟩, zu_ne _ _ hx]
  have eO : ∀ kk, kk ≠ 33 → zA (zsA σ 12 0 33 l (nI k)) 12 0 kk = zA σ 12 0 kk := fun kk hkk => by
    rw [zA_sA, if_neg (fun e => hkk e.2.2)]
  have hag : ∀ lo M, zAg (znd σ) (znd (zsA σ 12 0 33 l (nI k))) lo M := fun lo M j _ _ => ⟨congrFun (eO 31 (by decide)) j, congrFun (eO 32 (by decide)) j, congrFun (eO 34 (by decide)) j, congrFun (eO 35 (by decide)) j, congrFun (eO 36 (by decide)) j⟩
  refine ⟨⟨by omega, by rw [eO 31 (by decide)]; exact h2, by rw [e33 p (by omega)]; exact h3, ⟨ks ++ [l], by rw [List.map_append, h4]; rfl, fun x hx => ?_⟩, ?_, fun q hq => ?_⟩, fun j hj => ⟨congrFun (eO 31 (by decide)) j, congrFun (eO 32 (by decide)) j, e33 j (by omega), congrFun (eO 34 (by decide)) j, congrFun (eO 35 (by decide)) j, congrFun (eO 36 (by decide)) j⟩⟩
  · rcases List.mem_append.mp hx with hx | hx
    · have := h4' x hx
      omega
    · rw [List.mem_singleton.mp hx]
      omega
  · rw [eO 32 (by decide), List.map_append, h4]
    rw [h4] at h5
    refine zChn_app h5 (fun x hx => e33 x ?_) (by rw [zA_sA, if_pos ⟨rfl, rfl, rfl⟩, zu_eq]) (by rw [e33 k (by omega)]; exact hk33)
    have := h4' x hx
    omega
  · rcases List.mem_append.mp hq with hq | hq
    · have hin : ∀ M', m ≤ M' → zNx (znd (zsA σ 12 0 33 l (nI k))) M' L (p + 1) q.1 q.2 := fun M' hM' => by
        by_cases hql2 : q.1 = l
        · exact zNx_ag hM' (hag _ _) (fun j hj _ => e33 j (by omega)) (h6 q hq).1
        · exact zNx_ag (by omega) (hag _ _) (fun j _ hj => e33 j (by omega)) ((h6 q hq).2 hql2)
      exact ⟨hin m' (by omega), fun _ => hin k hkb.1⟩
    · rw [List.mem_singleton.mp hq]
      exact ⟨zNx_w (by omega) (zNx_ag (Nat.le_refl _) (hag _ _) (fun j hj _ => e33 j (by omega)) hk), fun h => absurd rfl h⟩
