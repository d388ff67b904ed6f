theorem deliver_keep {v : vS} {T F C N c : Nat} (hv : Inv v T F (C + 1) N) {j : Nat} (hj : j ≤ 7) : deliverF v c j = v j := by
  unfold deliverF
  rw [drop_lo (C := C + 1) (by omega) (by rw [upd_n (by omega), upd_n (by omega), upd_n (by omega), upd_n (by omega), upd_n (by omega)]; exact hv.2.2.2.1.1) hv.2.2.2.1.2.1 (by omega) (by omega), upd_n (by omega), upd_n (by omega), upd_n (by omega), upd_n (by omega), upd_n (by omega)]
theorem Inv_deliverL {T F N : Nat} (hN : N ≤ 500000) : ∀ (d c C : Nat) (v : vS), Inv v T F C N → c + d = C → ∃ C2, C2 ≤ C ∧ Inv (deliverL d c v) T F C2 N ∧ ∀ j, j ≤ 7 → deliverL d c v j = v j
  | 0, c, C, v, hv, _ => ⟨C, Nat.le_refl C, hv, fun _ _ => rfl⟩
  | d + 1, c, C, v, hv, h => by
    unfold deliverL
    split
    · rename_i hr
      obtain ⟨C, rfl⟩ : ∃ m, C = m + 1 := ⟨C - 1, by omega⟩
      obtain ⟨C2, h1, h2, h3⟩ := Inv_deliverL hN d c C _ (hv.deliver (c := c) (by omega) hN hr) (by omega)
      exact ⟨C2, by omega, h2, fun j hj => by rw [h3 j hj, deliver_keep hv hj]⟩
    · exact Inv_deliverL hN d (c + 1) C v hv (by omega)
theorem Inv.hours {T F C : Nat} : ∀ (n : Nat) (v : vS) (N : Nat), Inv v T F C N → N + 29 * n ≤ 500000 → Inv (hoursF n v) T F C (N + 29 * n) ∧ (∀ j, (j ≤ 8 ∨ j = 11 ∨ j = 12 ∨ 138 ≤ j) → j ≠ 6 → hoursF n v j = v j) ∧ hoursF n v 6 = v 6 + nI n
  | 0, v, N, hv, _ => ⟨hv, fun _ _ _ => rfl, by show v 6 = v 6 + nI 0; rw [show nI 0 = (0 : Int32) from rfl, Int32.add_zero]⟩
  | n + 1, v, N, hv, hN => by
    obtain ⟨a1, a2, a3⟩ := hv.hour (by omega)
    obtain ⟨b1, b2, b3⟩ := Inv.hours n _ (N + 29) a1 (by omega)
    unfold hoursF
    refine ⟨?_, fun j hj h6 => by rw [b2 j hj h6, a2 j hj h6], ?_⟩
    · rw [show N + 29 * (n + 1) = N + 29 + 29 * n from by omega]; exact b1
    · rw [b3, a3, Int32.add_assoc, show (1 : Int32) = nI 1 from rfl, nI_add, Nat.add_comm]
/-- a day: H hours, then the contracts -/
theorem Inv.day {v : vS} {T F C N H : Nat} (hv : Inv v T F C N) (hH : v 2 = nI H) (hH24 : H ≤ 24) (hN : N + 29 * H ≤ 500000) : ∃ C2, C2 ≤ C ∧ Inv (dayF v) T F C2 (N + 29 * H) ∧ (∀ j, j ≤ 5 → dayF v j = v j) ∧ dayF v 6 = v 6 + nI H ∧ dayF v = deliverL C 0 (hoursF H v) := by
  have cH : nn (v 2) = H := by rw [hH]; exact nI_clamp (by omega)
  obtain ⟨a1, a2, a3⟩ := Inv.hours H v N hv hN
  have cC : nn (hoursF H v 8) = C := by rw [a1.2.2.2.1.1]; exact nI_clamp (by have := a1.2.2.2.1.2.1; omega)
  have e : dayF v = deliverL C 0 (hoursF H v) := by unfold dayF; simp only []; rw [cH, cC]
  obtain ⟨C2, h1, h2, h3⟩ := Inv_deliverL hN C 0 C _ a1 (by omega)
  exact ⟨C2, h1, by rw [e]; exact h2, fun j hj => by rw [e, h3 j (by omega), a2 j (by omega) (by omega)], by rw [e, h3 6 (by omega), a3], e⟩
theorem Inv.days {T F H : Nat} (hH24 : H ≤ 24) : ∀ (n : Nat) (v : vS) (C N : Nat), Inv v T F C N → v 2 = nI H → N + 29 * H * n ≤ 500000 → ∃ C2, C2 ≤ C ∧ Inv (daysF n v) T F C2 (N + 29 * H * n) ∧ (∀ j, j ≤ 5 → daysF n v j = v j) ∧ daysF n v 6 = v 6 + nI (H * n)
  | 0, v, C, N, hv, _, _ => ⟨C, Nat.le_refl C, hv, fun _ _ => rfl, by show v 6 = v 6 + nI (H * 0); rw [Nat.mul_zero, show nI 0 = (0 : Int32) from rfl, Int32.add_zero]⟩
  | n + 1, v, C, N, hv, hH, hN => by
    have e1 : 29 * H * (n + 1) = 29 * H + 29 * H * n := by rw [Nat.mul_add, Nat.mul_one]; omega
    obtain ⟨C2, h1, h2, h3, h4, -⟩ := hv.day hH hH24 (by omega)
    obtain ⟨C3, g1, g2, g3, g4⟩ := Inv.days hH24 n _ C2 _ h2 (by rw [h3 2 (by omega)]; exact hH) (by omega)
    unfold daysF
    refine ⟨C3, by omega, ?_, fun j hj => by rw [g3 j hj, h3 j hj], ?_⟩
    · rw [show N + 29 * H * (n + 1) = N + 29 * H + 29 * H * n from by omega]; exact g2
    · rw [g4, h4, Int32.add_assoc, nI_add]; exact congrArg (fun z => v 6 + nI z) (by rw [Nat.mul_add]; omega)
/-- the contracts behind a day's last hour -/
theorem e_days42 {k : Int32 → qS → Prop} {kb : qS → Int32 → Int32 → Int32 → Prop} {x1 x2 x3 : Int32} {T F N : Nat} (hN : N ≤ 500000) : ∀ (d c C n : Nat) (q : qS), Inv (q 1) T F C N → c + d = C → d < n → (∀ r, Fr q r → r 1 = deliverL d c (q 1) → kb r x1 x2 (x3 + 1)) → wX10_days_b42 k kb n q x1 x2 x3 (nI c) := by
  intro d
  induction d with
  | zero =>
    intro c C n q hv hc hn h
    obtain ⟨n, rfl⟩ : ∃ m, n = m + 1 := ⟨n - 1, by omega⟩
    obtain ⟨c8, c12, -⟩ := hv.2.2.2.1
    unfold wX10_days_b42
    exact pk_le C c (fun _ y ey => by rw [ey]; exact h q (Fr.refl q) rfl) (fun z => by omega) c8 rfl (by omega) (by omega)
  | succ d ih =>
    intro c C n q hv hc hn h
    obtain ⟨n, rfl⟩ : ∃ m, n = m + 1 := ⟨n - 1, by omega⟩
    obtain ⟨c8, c12, hcn⟩ := hv.2.2.2.1
    obtain ⟨t, a, b, e, f, p, hh⟩ := hcn c (by omega)
    obtain ⟨b0, b1, b2, hB, -⟩ := hv.bins hN
    unfold wX10_days_b42
    refine pk_le C c (fun z => by omega) (fun _ => ?_) c8 rfl (by omega) (by omega)
    refine e_reason (by omega) hh hB (fun hr => ⟨fun z => absurd rfl z, fun _ => ?_⟩) (fun hr => ⟨fun _ y4 e4 => ?_, fun z => absurd z hr⟩)
    · obtain ⟨C, rfl⟩ : ∃ m, C = m + 1 := ⟨C - 1, by omega⟩
      refine e_delivers (C := C + 1) (by rw [bl_1]; exact c8) (by omega) c12 (by rw [bl_9, bl_1]) (by rw [bl_10, bl_1]) ?_
      rw [bl_1]
      refine ih c C n _ (by rw [upA_s]; exact hv.deliver (by omega) hN hr) (by omega) (by omega) (fun r hF hr1 => ?_)
      refine h r ((Fr.bl q _ _).trans ((Fr.up _ _).trans hF)) ?_
      rw [hr1, upA_s, deliverL, if_pos hr]
    · rw [e4, nI_1]
      refine ih (c + 1) C n q hv (by omega) (by omega) (fun r hF hr1 => h r hF ?_)
      rw [hr1, deliverL, if_neg hr]
theorem e_days18 {k : Int32 → qS → Prop} {kb : qS → Int32 → Int32 → Int32 → Prop} {x1 x2 x3 : Int32} {T F C H : Nat} (hH : H ≤ 24) : ∀ (d i n N : Nat) (q : qS), Inv (q 1) T F C N → q 1 2 = nI H → i + d = H → d < n → N + 29 * d ≤ 500000 → (∀ r, Fr q r → r 1 = deliverL C 0 (hoursF d (q 1)) → kb r x1 x2 (x3 + 1)) → wX10_days_b18 k kb n q x1 x2 x3 (nI i) := by
  intro d
  induction d with
  | zero =>
    intro i n N q hv h2 hi hn hN h
    obtain ⟨n, rfl⟩ : ∃ m, n = m + 1 := ⟨n - 1, by omega⟩
    unfold wX10_days_b18
    refine pk_le H i (fun _ => ?_) (fun z => by omega) h2 rfl (by omega) (by omega)
    exact ⟨C + 1, e_days42 (by omega) C 0 C (C + 1) q hv (by omega) (by omega) h⟩
  | succ d ih =>
    intro i n N q hv h2 hi hn hN h
    obtain ⟨n, rfl⟩ : ∃ m, n = m + 1 := ⟨n - 1, by omega⟩
    unfold wX10_days_b18
    refine pk_le H i (fun z => by omega) (fun _ => ?_) h2 rfl (by omega) (by omega)
    obtain ⟨a1, a2, a3⟩ := hv.hour (by omega)
    have hh := e_hour (k := fun (q9 : qS) => ∀ y10 : Int32, y10 = nI i + (1 : Int32) → (wX10_days_b18 k kb n q9 x1 x2 x3 y10)) (q := q) (v := q 1) hv.1 (by
      intro y ey
      rw [ey, nI_1]
      refine ih (i + 1) n (N + 29) _ (by rw [upA_s]; exact a1) (by rw [upA_s, a2 2 (by omega) (by omega)]; exact h2) (by omega) (by omega) (by omega) (fun r hF hr => ?_)
      exact h r ((Fr.up _ _).trans hF) (by rw [hr, upA_s]; rfl))
    rw [upA_id] at hh
    exact hh
theorem e_days10 {k : Int32 → qS → Prop} {x2 : Int32} {T F H D : Nat} (hH : H ≤ 24) (hD : D ≤ 30) : ∀ (d i n N C : Nat) (q : qS), Inv (q 1) T F C N → q 1 2 = nI H → i + d = D → d < n → N + 29 * H * d ≤ 500000 → (∀ r, Fr q r → r 1 = daysF d (q 1) → k (r 1 11 - x2) r) → wX10_days_b10 k n q (nI D) x2 (nI i) := by
  intro d
  induction d with
  | zero =>
    intro i n N C q hv h2 hi hn hN h
    obtain ⟨n, rfl⟩ : ∃ m, n = m + 1 := ⟨n - 1, by omega⟩
    unfold wX10_days_b10
    exact pk_le D i (fun _ => h q (Fr.refl q) rfl) (fun z => by omega) rfl rfl (by omega) (by omega)
  | succ d ih =>
    intro i n N C q hv h2 hi hn hN h
    obtain ⟨n, rfl⟩ : ∃ m, n = m + 1 := ⟨n - 1, by omega⟩
    have e1 : 29 * H * (d + 1) = 29 * H + 29 * H * d := by rw [Nat.mul_add, Nat.mul_one]; omega
    unfold wX10_days_b10
    refine pk_le D i (fun z => by omega) (fun _ => ?_) rfl rfl (by omega) (by omega)
    obtain ⟨C2, g1, g2, g3, g4, g5⟩ := hv.day h2 hH (by omega)
    refine ⟨H + 1, e_days18 hH H 0 (H + 1) N q hv h2 (by omega) (by omega) (by omega) (fun r hF hr => ?_)⟩
    rw [nI_1]
    rw [← g5] at hr
    refine ih (i + 1) n (N + 29 * H) C2 r (by rw [hr]; exact g2) (by rw [hr, g3 2 (by omega)]; exact h2) (by omega) (by omega) (by omega) (fun r2 hF2 hr2 => ?_)
    exact h r2 (hF.trans hF2) (by rw [hr2, hr]; rfl)
theorem e_days {k : Int32 → qS → Prop} {q : qS} {T F C N H D : Nat} (hv : Inv (q 1) T F C N) (h2 : q 1 2 = nI H) (hH : H ≤ 24) (hD : D ≤ 30) (hN : N + 29 * H * D ≤ 500000) (h : ∀ r, Fr q r → r 1 = daysF D (q 1) → k (r 1 11 - q 1 11) r) : wX10_days k q (nI D) := by
  unfold wX10_days
  intro y ey
  subst ey
  exact ⟨D + 1, e_days10 hH hD D 0 (D + 1) N C q hv h2 (by omega) (by omega) hN h⟩
