/-! ===== the reference: contracts, days, what there is ===== -/
section MP
variable {m : qS} {v : vS} {u : Nat} {L : Nat → vS} {sl : Nat → Int32} {S : Nat → vS} {n : Nat} {pd : Nat → Int32} {k : Int32 → qS → Prop}
abbrev okCon (t a b e f p : Int32) : Prop := (isIn a 0 100 ∧ isIn b a 100 ∧ isIn e 0 100 ∧ isIn f e 100) ∧ isIn t 1 500 ∧ isIn p 0 99
def refCon (v : vS) (t a b e f p : Int32) : Int32 := if ¬ okCon t a b e f p then -2 else if v 8 = 12 then -4 else 0
theorem e_refusesCon {t a b e f p : Int32} (hk : k (refCon (m 1) t a b e f p) m) : wX10_refusesContract k m t a b e f p := by
  have bad : ¬ okCon t a b e f p → k (-2) m := fun z => by unfold refCon at hk; rw [if_pos z] at hk; exact hk
  have tail : (isIn a 0 100 ∧ isIn b a 100 ∧ isIn e 0 100 ∧ isIn f e 100) → wX10_refusesContract_b48 k m t p 1 := by
    intro g
    unfold wX10_refusesContract_b48 wX10_refusesContract_b77 wX10_refusesContract_b98
    refine ⟨fun z => absurd z (by decide), fun _ => e_inC (fun c1 => ⟨fun z => absurd z (by decide), fun _ => e_inC (fun c2 => ⟨fun _ => ⟨fun c3 => ?_, fun c3 => ?_⟩, fun z => absurd z (by decide)⟩) (fun c2 => ⟨fun z => absurd rfl z, fun _ => bad (fun z => c2 z.2.2)⟩)⟩) (fun c1 => ⟨fun _ => bad (fun z => c1 z.2.1), fun z => absurd rfl z⟩)⟩
    · unfold refCon at hk; rw [if_neg (fun z => z ⟨g, c1, c2⟩), if_neg c3] at hk; exact hk
    · unfold refCon at hk; rw [if_neg (fun z => z ⟨g, c1, c2⟩), if_pos c3] at hk; exact hk
  have no : ¬ (isIn a 0 100 ∧ isIn b a 100 ∧ isIn e 0 100 ∧ isIn f e 100) → wX10_refusesContract_b47 k m t p := by
    intro g
    unfold wX10_refusesContract_b47 wX10_refusesContract_b48 wX10_refusesContract_b77
    exact ⟨fun _ => bad (fun z => g z.1), fun z => absurd rfl z⟩
  unfold wX10_refusesContract
  exact e_inC (fun c1 => ⟨fun z => absurd z (by decide), fun _ => e_inC (fun c2 => ⟨fun z => absurd z (by decide), fun _ => e_inC (fun c3 => ⟨fun z => absurd z (by decide), fun _ => e_inC (fun c4 => ⟨fun z => absurd z (by decide), fun _ => tail ⟨c1, c2, c3, c4⟩⟩) (fun c4 => ⟨fun _ => no (fun z => c4 z.2.2.2), fun z => absurd rfl z⟩)⟩) (fun c3 => ⟨fun _ => no (fun z => c3 z.2.2.1), fun z => absurd rfl z⟩)⟩) (fun c2 => ⟨fun _ => no (fun z => c2 z.2.1), fun z => absurd rfl z⟩)⟩) (fun c1 => ⟨fun _ => no (fun z => c1 z.1), fun z => absurd rfl z⟩)
/-- a contract comes as the C-th -/
def conF (v : vS) (C : Nat) (t a b e f p : Int32) : vS := upd (upd (upd (upd (upd (upd (upd v (138 + 6 * C) t) (138 + 6 * C + 1) a) (138 + 6 * C + 2) b) (138 + 6 * C + 3) e) (138 + 6 * C + 4) f) (138 + 6 * C + 5) p) 8 (nI (C + 1))
theorem e_laysCon {C : Nat} {t a b e f p : Int32} (h8 : m 1 8 = nI C) (hC : C < 12) (hk : k (nI C) (upA m 1 (conF (m 1) C t a b e f p))) : wX10_laysContract k m t a b e f p := by
  unfold wX10_laysContract
  have c0 : Int32.toNatClampNeg (nI (138 + 6 * C)) = 138 + 6 * C := nI_clamp (by omega)
  have c1 : Int32.toNatClampNeg (nI (138 + 6 * C + 1)) = 138 + 6 * C + 1 := nI_clamp (by omega)
  have c2 : Int32.toNatClampNeg (nI (138 + 6 * C + 2)) = 138 + 6 * C + 2 := nI_clamp (by omega)
  have c3 : Int32.toNatClampNeg (nI (138 + 6 * C + 3)) = 138 + 6 * C + 3 := nI_clamp (by omega)
  have c4 : Int32.toNatClampNeg (nI (138 + 6 * C + 4)) = 138 + 6 * C + 4 := nI_clamp (by omega)
  have c5 : Int32.toNatClampNeg (nI (138 + 6 * C + 5)) = 138 + 6 * C + 5 := nI_clamp (by omega)
  intro y1 d1
  rw [h8, ix138] at d1
  subst d1
  simp only [ixp0, ixp1, ixp2, ixp3, ixp4, ixp5, c0, c1, c2, c3, c4, c5]
  refine ⟨vp_in_nI (by omega) (by omega), fun q2 d2 => ⟨vp_in_nI (by omega) (by omega), fun q3 d3 => ⟨vp_in_nI (by omega) (by omega), fun q4 d4 => ⟨vp_in_nI (by omega) (by omega), fun q5 d5 => ⟨vp_in_nI (by omega) (by omega), fun q6 d6 => ⟨vp_in_nI (by omega) (by omega), fun q7 d7 y8 d8 q9 d9 => ?_⟩⟩⟩⟩⟩⟩
  have u8 : ∀ {f : Nat → Int32} {x : Int32} {j : Nat}, 26 ≤ j → upd f j x 8 = f 8 := fun {f x j} b => upd_n (by omega)
  rw [d9, d8, d7, d6, d5, d4, d3, d2]
  simp only [up2_A, upA_A, upA_s, upd_s]
  rw [u8 (by omega), u8 (by omega), u8 (by omega), u8 (by omega), u8 (by omega), u8 (by omega), h8, nI_1, nI_pred]
  exact hk
theorem e_contract {C : Nat} {t a b e f p : Int32} (h : MM m v u L sl S n pd) (h8 : v 8 = nI C) (hC : C ≤ 12) (hr : refCon v t a b e f p ≠ 0 → ∀ r, MM r v u L sl S n pd → k (refCon v t a b e f p) r)
    (hk : refCon v t a b e f p = 0 → C < 12 → ∀ r, MM r (conF v C t a b e f p) (recU u) (recL u L v) sl S n pd → k (nI C) r) : wX10_contract k m t a b e f p := by
  unfold wX10_contract
  intro q1 e1
  have h1 := h.th 0
  rw [← e1] at h1
  have hv := h1.1
  refine e_refusesCon ?_
  rw [hv]
  refine ⟨fun c => e_recs h1 (fun r hr2 => ?_), fun c => hr c q1 h1⟩
  have hv2 := hr2.1
  have hC12 : C < 12 := by
    rcases Nat.lt_or_ge C 12 with z | z
    · exact z
    · obtain rfl : C = 12 := by omega
      unfold refCon at c
      by_cases y : ¬ okCon t a b e f p
      · rw [if_pos y] at c; exact absurd c (by decide)
      · rw [if_neg y, if_pos (show v 8 = 12 from h8)] at c; exact absurd c (by decide)
  refine e_laysCon (C := C) (by rw [hv2]; exact h8) hC12 ?_
  rw [hv2]
  exact hk c hC12 _ hr2.v
/-- an int against a count -/
theorem isIn_n {x : Int32} {C : Nat} (hC : C < 2 ^ 30) : isIn x 0 (nI C - 1) ↔ ∃ j : Nat, j < C ∧ x = nI j := by
  have h1 : (nI C - 1).toInt = (C : Int) - 1 := by
    rw [show (1 : Int32) = nI 1 from rfl, pk_sub_toInt (by omega) (by omega)]; rfl
  have h0 : ((0 : Int32)).toInt = 0 := by decide
  unfold isIn
  rw [lt_I, lt_I, h1, h0]
  constructor
  · intro h
    obtain ⟨j, hj, e⟩ := nI_of (x := x) (by rw [lt_I, h0]; omega)
    subst e
    rw [nI_toInt hj] at h
    exact ⟨j, by omega, rfl⟩
  · rintro ⟨j, hj, rfl⟩
    rw [nI_toInt (by omega)]; omega
theorem e_isContract {x : Int32} (h1 : isIn x 0 (m 1 8 - 1) → k 1 m) (h0 : ¬ isIn x 0 (m 1 8 - 1) → k 0 m) : wX10_isContract k m x := by
  unfold wX10_isContract
  exact e_inC (fun c => ⟨rfl, h1 c⟩) (fun c => ⟨rfl, h0 c⟩)
theorem e_drop {C : Nat} {x : Int32} (h : MM m v u L sl S n pd) (h8 : v 8 = nI C) (hC : C ≤ 12) (hr : (¬ ∃ j, j < C ∧ x = nI j) → ∀ r, MM r v u L sl S n pd → k (-1) r)
    (hk : ∀ c, c < C → x = nI c → ∀ r, MM r (dropF v c) (recU u) (recL u L v) sl S n pd → k (nI (C - 1)) r) : wX10_drop k m x := by
  unfold wX10_drop
  intro q1 e1
  have h1 := h.th 0
  rw [← e1] at h1
  have hv := h1.1
  refine e_isContract (fun c => ⟨fun _ => e_recs h1 (fun r hr2 => ?_), fun z => absurd z (by decide)⟩) (fun c => ⟨fun z => absurd rfl z, fun _ => hr ?_ q1 h1⟩)
  · rw [hv, h8] at c
    obtain ⟨j, hj, e⟩ := (isIn_n (by omega)).mp c
    have hv2 := hr2.1
    rw [e]
    have D := e_drops (k := fun (q7 : qS) => k (q7 1 8) q7) (q := r) (v := v) h8 hj hC
    rw [← hv2, upA_id, hv2] at D
    refine D ?_
    rw [upA_s]
    obtain ⟨C, rfl⟩ : ∃ z, C = z + 1 := ⟨C - 1, by omega⟩
    rw [drop_8 h8]
    exact hk j hj e _ hr2.v
  · rw [hv, h8] at c
    exact fun z => c ((isIn_n (by omega)).mpr z)
def refPass (v : vS) (x : Int32) : Int32 := if ¬ isIn x 1 30 then -2 else if ¬ v 6 + x * v 2 ≤ 9999 then -5 else 0
theorem e_refusesPass {x : Int32} (hk : k (refPass (m 1) x) m) : wX10_refusesPass k m x := by
  unfold wX10_refusesPass wX10_refusesPass_b41
  unfold refPass at hk
  refine e_inC (fun c => ⟨fun _ => ⟨fun c2 => ?_, fun c2 => ?_⟩, fun z => absurd z (by decide)⟩) (fun c => ⟨fun z => absurd rfl z, fun _ => ?_⟩)
  · rw [if_neg (fun z => z c), if_neg (fun z => z c2)] at hk; exact hk
  · rw [if_neg (fun z => z c), if_pos c2] at hk; exact hk
  · rw [if_pos c] at hk; exact hk
theorem isIn_30 {x : Int32} (h : isIn x 1 30) : ∃ D : Nat, 1 ≤ D ∧ D ≤ 30 ∧ x = nI D := by
  have h1 : ((1 : Int32)).toInt = 1 := by decide
  have h30 : ((30 : Int32)).toInt = 30 := by decide
  unfold isIn at h
  rw [lt_I, lt_I, h1, h30] at h
  obtain ⟨j, hj, e⟩ := nI_of (x := x) (by rw [lt_I, show ((0 : Int32)).toInt = 0 from by decide]; omega)
  subst e
  rw [nI_toInt hj] at h
  exact ⟨j, by omega, by omega, rfl⟩
/-- what holds of the numbers between calls: hr hours -/
def GI (v : vS) : Prop := ∃ T F C hr H : Nat, Inv v T F C (29 * hr) ∧ v 6 = nI hr ∧ hr ≤ 9999 ∧ v 2 = nI H ∧ 1 ≤ H ∧ H ≤ 24
theorem e_pass {x : Int32} (h : MM m v u L sl S n pd) (hg : GI v) (hr : refPass v x ≠ 0 → ∀ r, MM r v u L sl S n pd → k (refPass v x) r)
    (hk : refPass v x = 0 → ∀ D : Nat, 1 ≤ D → D ≤ 30 → x = nI D → ∀ r, MM r (daysF D v) (recU u) (recL u L v) sl S n pd → k (daysF D v 11 - v 11) r) : wX10_pass k m x := by
  unfold wX10_pass
  intro q1 e1
  have h1 := h.th 0
  rw [← e1] at h1
  have hv := h1.1
  refine e_refusesPass ?_
  rw [hv]
  refine ⟨fun c => e_recs h1 (fun r hr2 => ?_), fun c => hr c q1 h1⟩
  have hv2 := hr2.1
  have hin : isIn x 1 30 := by
    unfold refPass at c
    by_cases y : isIn x 1 30
    · exact y
    · rw [if_pos y] at c; exact absurd c (by decide)
  obtain ⟨D, D1, D30, eD⟩ := isIn_30 hin
  obtain ⟨T, F, C, hrs, H, hI, h6, hh, h2, H1, H24⟩ := hg
  have hHD : H * D ≤ 24 * 30 := Nat.mul_le_mul H24 D30
  have e29 : 29 * H * D = 29 * (H * D) := Nat.mul_assoc _ _ _
  rw [eD]
  refine e_days (T := T) (F := F) (C := C) (N := 29 * hrs) (H := H) (by rw [hv2]; exact hI) (by rw [hv2]; exact h2) H24 D30 (by omega) (fun r2 hF hr3 => ?_)
  rw [hv2] at hr3 ⊢
  rw [hr3]
  exact hk c D D1 D30 eD r2 (hr2.fr hF hr3)
end MP
