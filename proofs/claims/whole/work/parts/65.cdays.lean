/-! ===== the class's days ===== -/
/-- a delivery ahead of the contract's going -/
def dl1 (v : vS) (c : Nat) : vS := upd (upd (upd (upd (upd v 14 (v 14 - fineF v c)) 15 (v 15 - (trF v c 0 - fineF v c - coarseF v c))) 16 (v 16 - coarseF v c)) 12 (v 12 + trF v c 0 * trF v c 5)) 11 (v 11 + 1)
theorem dl1_n {v : vS} {c j : Nat} (a : j ≠ 14) (b : j ≠ 15) (d : j ≠ 16) (e : j ≠ 12) (f : j ≠ 11) : dl1 v c j = v j := by
  unfold dl1; rw [upd_n f, upd_n e, upd_n d, upd_n b, upd_n a]
theorem deliver_dl1 (v : vS) (c : Nat) : deliverF v c = dropF (dl1 v c) c := rfl
theorem Inv_dl1 {v : vS} {T F C N c : Nat} (hv : Inv v T F C N) (hc : c < C) (hN : N ≤ 500000) (hr : reasonF v c = 0) : Inv (dl1 v c) T F C N := by
  obtain ⟨h1, h2, h3, h4, h5, h6⟩ := id hv
  obtain ⟨t, a, b, e, f, p, hh⟩ := h4.2.2 c (by omega)
  obtain ⟨b0, b1, b2, hB, hb⟩ := hv.bins hN
  obtain ⟨cs, fs, e1, e2, q1, q2, q3, q4⟩ := reason0 hh hB hr
  obtain ⟨n0, n1, n2, nb⟩ := hB
  have t0 := hh.1.1
  have e3 : nI t - nI fs - nI cs = nI (t - fs - cs) := by rw [pk_sub (by omega), pk_sub (by omega)]
  have key : ∀ j, j ≠ 14 → j ≠ 15 → j ≠ 16 → j ≠ 12 → j ≠ 11 → dl1 v c j = v j := fun j a b d e f => dl1_n a b d e f
  obtain ⟨⟨y, w1, w2⟩, -, hst⟩ := h3
  refine ⟨h1.keep (key _ (by omega) (by omega) (by omega) (by omega) (by omega)) (key _ (by omega) (by omega) (by omega) (by omega) (by omega)) (fun j _ _ => key j (by omega) (by omega) (by omega) (by omega) (by omega)), h2.keep (fun j _ _ => key j (by omega) (by omega) (by omega) (by omega) (by omega)), ⟨⟨y, by rw [key _ (by omega) (by omega) (by omega) (by omega) (by omega)]; exact w1, w2⟩, ⟨b0 - fs, b1 - (t - fs - cs), b2 - cs, ?_, ?_, ?_, by omega⟩, fun i i1 i9 => ?_⟩, h4.keep (key _ (by omega) (by omega) (by omega) (by omega) (by omega)) (fun j _ _ => key j (by omega) (by omega) (by omega) (by omega) (by omega)), h5.keep h1.2.2.2.1 (fun j _ _ => key j (by omega) (by omega) (by omega) (by omega) (by omega)), h6.keep (fun j _ _ => key j (by omega) (by omega) (by omega) (by omega) (by omega))⟩
  · unfold dl1; rw [upd_n (by omega), upd_n (by omega), upd_n (by omega), upd_n (by omega), upd_s, n0, e2, pk_sub q1]
  · unfold dl1; rw [upd_n (by omega), upd_n (by omega), upd_n (by omega), upd_s, n1, t0, e1, e2, e3, pk_sub q4]
  · unfold dl1; rw [upd_n (by omega), upd_n (by omega), upd_s, n2, e1, pk_sub q2]
  · obtain ⟨s2, r1, r2⟩ := hst i i1 i9
    exact ⟨s2, by rw [key _ (by omega) (by omega) (by omega) (by omega) (by omega)]; exact r1, r2⟩
theorem RQ_dl1 {q r : qS} {v : vS} {F C c : Nat} (hq : RQ q v F C) (hF8 : F ≤ 8) (hC : C ≤ 12) (g : ∀ i, i ≠ 0 → i ≠ 11 → r i = q i) (g0 : ∀ j, j < 8 → j ≠ 1 → j ≠ 2 → r 0 j = q 0 j) (g1 : r 0 1 = v 11 + 1) (g2 : r 0 2 = v 12 + trF v c 0 * trF v c 5) (b0 : r 11 0 = v 14 - fineF v c) (b1 : r 11 1 = v 15 - (trF v c 0 - fineF v c - coarseF v c)) (b2 : r 11 2 = v 16 - coarseF v c) : RQ r (dl1 v c) F C := by
  obtain ⟨hS, h0, hB, hFF, hTT, hCC⟩ := hq
  have key : ∀ j, j ≠ 14 → j ≠ 15 → j ≠ 16 → j ≠ 12 → j ≠ 11 → dl1 v c j = v j := fun j a b d e f => dl1_n a b d e f
  have k14 : dl1 v c 14 = v 14 - fineF v c := by unfold dl1; rw [upd_n (by omega), upd_n (by omega), upd_n (by omega), upd_n (by omega), upd_s]
  have k15 : dl1 v c 15 = v 15 - (trF v c 0 - fineF v c - coarseF v c) := by unfold dl1; rw [upd_n (by omega), upd_n (by omega), upd_n (by omega), upd_s]
  have k16 : dl1 v c 16 = v 16 - coarseF v c := by unfold dl1; rw [upd_n (by omega), upd_n (by omega), upd_s]
  have k12 : dl1 v c 12 = v 12 + trF v c 0 * trF v c 5 := by unfold dl1; rw [upd_n (by omega), upd_s]
  have k11 : dl1 v c 11 = v 11 + 1 := by unfold dl1; rw [upd_s]
  refine ⟨hS.k (g 1 (by decide) (by decide)) (fun j hj => key j (by omega) (by omega) (by omega) (by omega) (by omega)), ?_, ⟨fun i hi => ?_, fun i i1 i9 => ?_⟩, hFF.k hF8 (g 2 (by decide) (by decide)) (g 3 (by decide) (by decide)) (g 4 (by decide) (by decide)) (g 5 (by decide) (by decide)) (fun j a b => key j (by omega) (by omega) (by omega) (by omega) (by omega)), hTT.k (g 6 (by decide) (by decide)) (g 7 (by decide) (by decide)) (g 8 (by decide) (by decide)) (g 9 (by decide) (by decide)) (fun j a b => key j (by omega) (by omega) (by omega) (by omega) (by omega)), hCC.k hC (g 12 (by decide) (by decide)) (fun j a b => key j (by omega) (by omega) (by omega) (by omega) (by omega))⟩
  · obtain ⟨c1, c2, c3, c4, c5, c6, c7, c8⟩ := h0
    unfold r0
    rw [g0 0 (by omega) (by omega) (by omega), g0 4 (by omega) (by omega) (by omega), g0 5 (by omega) (by omega) (by omega), g0 7 (by omega) (by omega) (by omega), g0 6 (by omega) (by omega) (by omega), g1, g2, g0 3 (by omega) (by omega) (by omega), key 6 (by omega) (by omega) (by omega) (by omega) (by omega), key 7 (by omega) (by omega) (by omega) (by omega) (by omega), key 8 (by omega) (by omega) (by omega) (by omega) (by omega), key 9 (by omega) (by omega) (by omega) (by omega) (by omega), key 10 (by omega) (by omega) (by omega) (by omega) (by omega), k11, k12, key 13 (by omega) (by omega) (by omega) (by omega) (by omega)]
    exact ⟨c1, c2, c3, c4, c5, rfl, rfl, c8⟩
  · rcases (show i = 0 ∨ i = 1 ∨ i = 2 by omega) with rfl | rfl | rfl
    · rw [b0]; exact k14.symm
    · rw [b1]; exact k15.symm
    · rw [b2]; exact k16.symm
  · rw [g 10 (by decide) (by decide), key _ (by omega) (by omega) (by omega) (by omega) (by omega)]; exact hB.2 i i1 i9
theorem c_deliver_l {k : qS → Prop} {T F N : Nat} (hN : N ≤ 500000) : ∀ (d c C lk n : Nat) (q : qS) (v : vS), RQ q v F C → Inv v T F C N → c + d = C → lk + d ≤ 12 → d < n → (∀ r C2, RQ r (deliverL d c v) F C2 → Inv (deliverL d c v) T F C2 N → k r) → wX6_deliver_b4 k n q (nI c) (nI lk) := by
  intro d
  induction d with
  | zero =>
    intro c C lk n q v hq hv hc hl hn h
    obtain ⟨n, rfl⟩ : ∃ m, n = m + 1 := ⟨n - 1, by omega⟩
    obtain ⟨h8, h12, -⟩ := hv.2.2.2.1
    unfold wX6_deliver_b4 wX6_deliver_b118
    refine ⟨fun _ => h q C hq hv, fun _ => ?_⟩
    exact pk_le C c (fun _ => h q C hq hv) (fun z => by omega) (by rw [hq.2.1.2.2.1]; exact h8) rfl (by omega) (by omega)
  | succ d ih =>
    intro c C lk n q v hq hv hc hl hn h
    obtain ⟨n, rfl⟩ : ∃ m, n = m + 1 := ⟨n - 1, by omega⟩
    obtain ⟨h8, h12, hcn⟩ := hv.2.2.2.1
    have hF8 := hv.1.2.2.2.1
    unfold wX6_deliver_b4 wX6_deliver_b118 wX6_deliver_b112
    refine pk_le 12 lk (fun z => by omega) (fun _ => ?_) rfl rfl (by omega) (by omega)
    refine pk_le C c (fun z => by omega) (fun _ => ?_) (by rw [hq.2.1.2.2.1]; exact h8) rfl (by omega) (by omega)
    refine c_workOut hq h8 h12 (by omega) (fun q3 hq3 e15 e8 e13 e14 => ?_)
    rw [e15]
    refine ⟨fun hr => ?_, fun hr y14 d14 y1 d1 => ?_⟩
    · obtain ⟨C, rfl⟩ : ∃ m, C = m + 1 := ⟨C - 1, by omega⟩
      refine c_term (C := C + 1) (by rw [hq3.2.1.2.2.1]; exact h8) h12 (by omega) 5 (by omega) ?_
      intro y6 d6 q7 d7 y8 d8 q9 d9
      have n11 : (11 : Nat) ≠ 0 := by decide
      have n0 : (0 : Nat) ≠ 11 := by decide
      have t5 : q3 12 (6 * c + 5) = trF v c 5 := hq3.2.2.2.2.2 c (by omega) 5 (by omega)
      obtain ⟨c1, c2, c3, c4, c5, c6, c7, c8⟩ := hq3.2.1
      have f6 : y6 = v 12 + trF v c 0 * trF v c 5 := by rw [d6, t5, e8, c7]
      have f8 : y8 = v 11 + 1 := by rw [d8, d7, up2_A, upA_s, upd_n (by omega), c6]
      unfold wX2_takeOut
      intro y1 d1 p2 d2 y3 d3 p4 d4 y5 d5 p6 d6'
      have hB := hq3.2.2.1.1
      have g9 : ∀ i, i ≠ 0 → q9 i = q3 i := fun i hi => by rw [d9, d7, up2_A, upA_n hi, up2_A, upA_n hi]
      have g90 : ∀ j, j ≠ 1 → j ≠ 2 → q9 0 j = q3 0 j := fun j a b => by rw [d9, d7]; simp only [up2_A, upA_s]; rw [upd_n a, upd_n b]
      have a1 : q9 0 1 = v 11 + 1 := by rw [d9, up2_A, upA_s, upd_s, f8]
      have a2 : q9 0 2 = v 12 + trF v c 0 * trF v c 5 := by rw [d9, d7]; simp only [up2_A, upA_s]; rw [upd_n (by omega), upd_s, f6]
      have z1 : y1 = v 14 - fineF v c := by rw [d1, g9 11 (by decide), g90 13 (by omega) (by omega), e13]; rw [hB 0 (by omega)]
      have z3 : y3 = v 15 - (trF v c 0 - fineF v c - coarseF v c) := by
        rw [d3, d2]; simp only [up2_A, upA_s, upA_n n0]
        rw [upd_n (by omega), g9 11 (by decide), g90 8 (by omega) (by omega), g90 13 (by omega) (by omega), g90 14 (by omega) (by omega), e8, e13, e14]; rw [hB 1 (by omega)]
      have z5 : y5 = v 16 - coarseF v c := by
        rw [d5, d4, d2]; simp only [up2_A, upA_s, upA_n n0]
        rw [upd_n (by omega), upd_n (by omega), g9 11 (by decide), g90 14 (by omega) (by omega), e14]; rw [hB 2 (by omega)]
      have p611 : p6 11 = upd (upd (upd (q3 11) 0 y1) 1 y3) 2 y5 := by
        rw [d6', d4, d2]; simp only [up2_A, upA_s]; rw [g9 11 (by decide)]
      have p6n : ∀ i, i ≠ 11 → p6 i = q9 i := fun i hi => by rw [d6', d4, d2, up2_A, upA_n hi, up2_A, upA_n hi, up2_A, upA_n hi]
      have X : RQ p6 (dl1 v c) F (C + 1) := by
        refine RQ_dl1 hq3 hF8 h12 (fun i a b => by rw [p6n i b, g9 i a]) (fun j j8 j1 j2 => by rw [p6n 0 n0, g90 j j1 j2]) (by rw [p6n 0 n0, a1]) (by rw [p6n 0 n0, a2]) ?_ ?_ ?_
        · rw [p611, upd_n (by omega), upd_n (by omega), upd_s, z1]
        · rw [p611, upd_n (by omega), upd_s, z3]
        · rw [p611, upd_s, z5]
      refine c_dropOne X (Inv_dl1 hv (by omega) hN hr) (by omega) (fun r hr2 => ?_)
      rw [← deliver_dl1] at hr2
      intro w1 x1
      rw [x1, nI_1]
      refine ih c C (lk + 1) n r _ hr2 (hv.deliver (by omega) hN hr) (by omega) (by omega) (by omega) (fun r3 C2 hr3 hi3 => h r3 C2 ?_ ?_)
      · rw [deliverL, if_pos hr]; exact hr3
      · rw [deliverL, if_pos hr]; exact hi3
    · rw [d14, d1, nI_1, nI_1]
      refine ih (c + 1) C (lk + 1) n q3 v hq3 hv (by omega) (by omega) (by omega) (fun r3 C2 hr3 hi3 => h r3 C2 ?_ ?_)
      · rw [deliverL, if_neg hr]; exact hr3
      · rw [deliverL, if_neg hr]; exact hi3
theorem c_deliver {k : qS → Prop} {T F C N : Nat} {q : qS} {v : vS} (hq : RQ q v F C) (hv : Inv v T F C N) (hN : N ≤ 500000) (h : ∀ r C2, RQ r (deliverL C 0 v) F C2 → Inv (deliverL C 0 v) T F C2 N → k r) : wX6_deliver k q :=
  ⟨C + 1, c_deliver_l hN C 0 C 0 (C + 1) q v hq hv (by omega) (by have := hv.2.2.2.1.2.1; omega) (by omega) h⟩
/-- the contracts' count that goes with the numbers -/
theorem RQ.C {q : qS} {v : vS} {F C C2 : Nat} (h : RQ q v F C) (h8 : v 8 = nI C) (hc : C ≤ 12) (h82 : v 8 = nI C2) (hc2 : C2 ≤ 12) : RQ q v F C2 := by
  have e : C = C2 := by rw [h8] at h82; exact (nI_eq (by omega) (by omega)).mp h82
  rw [← e]; exact h
theorem c_hours_l {k : Int32 → qS → Prop} {kb : qS → Int32 → Int32 → Int32 → Int32 → Prop} {x1 x2 x3 x4 : Int32} {T F C H : Nat} (hH : H ≤ 24) : ∀ (d i n N : Nat) (q : qS) (v : vS), RQ q v F C → Inv v T F C N → i + d = H → d < n → N + 29 * d ≤ 500000 → (∀ r C2 N2, RQ r (deliverL C 0 (hoursF d v)) F C2 → Inv (deliverL C 0 (hoursF d v)) T F C2 N2 → kb r x1 x2 x3 (x4 + 1)) → wX6_runDays_b39 k kb n q x1 x2 x3 x4 (nI H) (nI i) := by
  intro d
  induction d with
  | zero =>
    intro i n N q v hq hv hi hn hN h
    obtain ⟨n, rfl⟩ : ∃ m, n = m + 1 := ⟨n - 1, by omega⟩
    unfold wX6_runDays_b39
    refine pk_le H i (fun _ => ?_) (fun z => by omega) rfl rfl (by omega) (by omega)
    refine c_deliver hq hv (by omega) (fun r C2 hr hi2 => ?_)
    intro y ey
    rw [ey]; exact h r C2 N hr hi2
  | succ d ih =>
    intro i n N q v hq hv hi hn hN h
    obtain ⟨n, rfl⟩ : ∃ m, n = m + 1 := ⟨n - 1, by omega⟩
    have hT := hv.1.2.1
    have cT : nn (v 0) = T := by rw [hv.1.1]; exact nI_clamp (by omega)
    unfold wX6_runDays_b39
    refine pk_le H i (fun z => by omega) (fun _ => ?_) rfl rfl (by omega) (by omega)
    refine c_bringLoads hq hv (fun r5 hr5 => ?_)
    have i5 := (Inv_comesL T 0 v N hv (by omega)).1
    refine c_sendTrucks hr5 i5 (fun r7 hr7 => ?_)
    have i7 := (Inv_goesL T 0 _ (N + T) i5 (by omega)).1
    refine c_crushHour hr7 i7 (by omega) (fun r9 hr9 => ?_)
    intro y10 e10 q11 e11 y12 e12
    have i9 := hv.hour (by omega)
    have hq11 : RQ q11 (hourF v) F C := by
      obtain ⟨hS, h0, hB, hFF, hTT, hC⟩ := hr9
      have eh : hourF v = upd (crushL (goesL T 0 (comesL T 0 v) 3) 9 1 (goesL T 0 (comesL T 0 v)) (capF (goesL T 0 (comesL T 0 v)))) 6 (crushL (goesL T 0 (comesL T 0 v) 3) 9 1 (goesL T 0 (comesL T 0 v)) (capF (goesL T 0 (comesL T 0 v))) 6 + 1) := by
        unfold hourF; rw [cT]
      rw [eh]
      generalize crushL (goesL T 0 (comesL T 0 v) 3) 9 1 (goesL T 0 (comesL T 0 v)) (capF (goesL T 0 (comesL T 0 v))) = w at *
      have g : ∀ i, i ≠ 0 → q11 i = r9 i := fun i hi => by rw [e11, up2_A, upA_n hi]
      have g0 : q11 0 = upd (r9 0) 0 (w 6 + 1) := by rw [e11, up2_A, upA_s, e10, h0.1]
      have hF8 := hv.1.2.2.2.1
      have hC12 := hv.2.2.2.1.2.1
      refine ⟨hS.k (g 1 (by decide)) (fun j hj => upd_n (by omega)), ?_, hB.k (g 11 (by decide)) (g 10 (by decide)) (fun j a b => upd_n (by omega)), hFF.k hF8 (g 2 (by decide)) (g 3 (by decide)) (g 4 (by decide)) (g 5 (by decide)) (fun j a b => upd_n (by omega)), hTT.k (g 6 (by decide)) (g 7 (by decide)) (g 8 (by decide)) (g 9 (by decide)) (fun j a b => upd_n (by omega)), hC.k hC12 (g 12 (by decide)) (fun j a b => upd_n (by omega))⟩
      obtain ⟨c1, c2, c3, c4, c5, c6, c7, c8⟩ := h0
      unfold r0
      rw [g0, upd_s, upd_s, upd_n (by omega), upd_n (by omega), upd_n (by omega), upd_n (by omega), upd_n (by omega), upd_n (by omega), upd_n (by omega), upd_n (by omega), upd_n (by omega), upd_n (by omega), upd_n (by omega), upd_n (by omega), upd_n (by omega), upd_n (by omega)]
      exact ⟨rfl, c2, c3, c4, c5, c6, c7, c8⟩
    rw [e12, nI_1]
    exact ih (i + 1) n (N + 29) q11 (hourF v) hq11 i9.1 (by omega) (by omega) (by omega) h
/-- without contracts nothing is delivered and nothing paid -/
theorem days_idle {T F H : Nat} (hH : H ≤ 24) : ∀ (n : Nat) (v : vS) (N : Nat), Inv v T F 0 N → v 2 = nI H → N + 29 * H * n ≤ 500000 → daysF n v 11 = v 11 ∧ daysF n v 12 = v 12
  | 0, _, _, _, _, _ => ⟨rfl, rfl⟩
  | n + 1, v, N, hv, h2, hN => by
    have e1 : 29 * H * (n + 1) = 29 * H + 29 * H * n := by rw [Nat.mul_add, Nat.mul_one]; omega
    obtain ⟨C2, g1, g2, g3, g4, g5⟩ := hv.day h2 hH (by omega)
    obtain rfl : C2 = 0 := by omega
    obtain ⟨a1, a2, -⟩ := Inv.hours H v N hv (by omega)
    have e11 : dayF v 11 = v 11 := by rw [g5]; show hoursF H v 11 = v 11; exact a2 11 (by omega) (by omega)
    have e12 : dayF v 12 = v 12 := by rw [g5]; show hoursF H v 12 = v 12; exact a2 12 (by omega) (by omega)
    obtain ⟨b1, b2⟩ := days_idle hH n (dayF v) (N + 29 * H) g2 (by rw [g3 2 (by omega)]; exact h2) (by omega)
    exact ⟨by show daysF n (dayF v) 11 = v 11; rw [b1, e11], by show daysF n (dayF v) 12 = v 12; rw [b2, e12]⟩
theorem c_days_l {k : Int32 → qS → Prop} {x3 w : Int32} {T F H D : Nat} (hH : H ≤ 24) (hD : D ≤ 30) : ∀ (d i n N C : Nat) (q : qS) (v : vS), RQ q v F C → Inv v T F C N → v 2 = nI H → i + d = D → d < n → N + 29 * H * d ≤ 500000 → (∀ r, r 0 1 = daysF d v 11 → r 0 2 = daysF d v 12 → (w = 0 → ∃ C2 N2, RQ r (daysF d v) F C2 ∧ Inv (daysF d v) T F C2 N2) → k (r 0 1 - x3) r) → wX6_runDays_b8 k n q (nI D) w x3 (nI i) := by
  intro d
  induction d with
  | zero =>
    intro i n N C q v hq hv h2 hi hn hN h
    obtain ⟨n, rfl⟩ : ∃ m, n = m + 1 := ⟨n - 1, by omega⟩
    unfold wX6_runDays_b8 wX6_runDays_b99
    exact pk_le D i (fun _ => h q hq.2.1.2.2.2.2.2.1 hq.2.1.2.2.2.2.2.2.1 (fun _ => ⟨C, N, hq, hv⟩)) (fun z => by omega) rfl rfl (by omega) (by omega)
  | succ d ih =>
    intro i n N C q v hq hv h2 hi hn hN h
    obtain ⟨n, rfl⟩ : ∃ m, n = m + 1 := ⟨n - 1, by omega⟩
    have e1 : 29 * H * (d + 1) = 29 * H + 29 * H * d := by rw [Nat.mul_add, Nat.mul_one]; omega
    have hq12 : q 1 2 = nI H := by rw [hq.1 2 (by omega)]; exact h2
    have go : wX6_runDays_b28 k (wX6_runDays_b8 k n) q (nI D) w x3 (nI i) := by
      unfold wX6_runDays_b28
      intro y ey
      rw [ey, hq12]
      obtain ⟨C2, g1, g2, g3, g4, g5⟩ := hv.day h2 hH (by omega)
      refine ⟨H + 1, c_hours_l hH H 0 (H + 1) N q v hq hv (by omega) (by omega) (by omega) (fun r C3 N3 hr hi3 => ?_)⟩
      rw [← g5] at hr hi3
      rw [nI_1]
      have hC3 : RQ r (dayF v) F C2 := hr.C hi3.2.2.2.1.1 hi3.2.2.2.1.2.1 g2.2.2.2.1.1 g2.2.2.2.1.2.1
      exact ih (i + 1) n (N + 29 * H) C2 r (dayF v) hC3 g2 (by rw [g3 2 (by omega)]; exact h2) (by omega) (by omega) (by omega) h
    unfold wX6_runDays_b8 wX6_runDays_b99
    refine pk_le D i (fun z => by omega) (fun _ => ⟨fun _ => go, fun hw => ⟨fun c0 => ?_, fun _ => go⟩⟩) rfl rfl (by omega) (by omega)
    have hC0 : C = 0 := by
      rw [hq.2.1.2.2.1, hv.2.2.2.1.1, show (0 : Int32) = nI 0 from rfl, nI_eq (by have := hv.2.2.2.1.2.1; omega) (by omega)] at c0; exact c0
    subst hC0
    obtain ⟨a1, a2⟩ := days_idle hH (d + 1) v N hv h2 hN
    exact h q (by rw [a1]; exact hq.2.1.2.2.2.2.2.1) (by rw [a2]; exact hq.2.1.2.2.2.2.2.2.1) (fun z => absurd z hw)
theorem c_runDays {k : Int32 → qS → Prop} {q : qS} {v : vS} {w : Int32} {T F C N H D : Nat} (hq : RQ q v F C) (hv : Inv v T F C N) (h2 : v 2 = nI H) (hH : H ≤ 24) (hD : D ≤ 30) (hN : N + 29 * H * D ≤ 500000) (h : ∀ r, r 0 1 = daysF D v 11 → r 0 2 = daysF D v 12 → (w = 0 → ∃ C2 N2, RQ r (daysF D v) F C2 ∧ Inv (daysF D v) T F C2 N2) → k (daysF D v 11 - v 11) r) : wX6_runDays k q (nI D) w := by
  unfold wX6_runDays
  intro y ey
  rw [hq.2.1.2.2.2.2.2.1] at ey
  rw [ey]
  refine ⟨D + 1, c_days_l hH hD D 0 (D + 1) N C q v hq hv h2 (by omega) (by omega) hN (fun r e1 e2 e3 => ?_)⟩
  rw [e1]; exact h r e1 e2 e3
theorem c_passDays {k : Int32 → qS → Prop} {q : qS} {v : vS} {x : Int32} {T F C hr H : Nat} (hq : RQ q v F C) (hv : Inv v T F C (29 * hr)) (h6 : v 6 = nI hr) (hh : hr ≤ 9999) (h2 : v 2 = nI H) (hH : H ≤ 24) (hr0 : refPass v x ≠ 0 → k (refPass v x) q)
    (hk : refPass v x = 0 → ∀ D : Nat, 1 ≤ D → D ≤ 30 → x = nI D → ∀ r C2 N2, RQ r (daysF D v) F C2 → Inv (daysF D v) T F C2 N2 → k (daysF D v 11 - v 11) r) : wX6_passDays k q x := by
  unfold wX6_passDays
  rw [hq.2.1.1, hq.1 2 (by omega)]
  unfold refPass at hr0 hk
  refine c_in (fun c => ⟨fun _ => ⟨fun c2 => ?_, fun c2 => ?_⟩, fun z => absurd z (by decide)⟩) (fun c => ⟨fun z => absurd rfl z, fun _ => ?_⟩)
  · rw [if_neg (fun z => z c), if_neg (fun z => z c2)] at hk
    obtain ⟨D, D1, D30, eD⟩ := isIn_30 c
    have hHD : H * D ≤ 24 * 30 := Nat.mul_le_mul hH D30
    have e29 : 29 * H * D = 29 * (H * D) := Nat.mul_assoc _ _ _
    rw [eD]
    refine c_runDays hq hv h2 hH D30 (by omega) (fun r _ _ e3 => ?_)
    obtain ⟨C2, N2, a, b⟩ := e3 rfl
    exact hk rfl D D1 D30 eD r C2 N2 a b
  · rw [if_neg (fun z => z c), if_pos c2] at hr0; exact hr0 (by decide)
  · rw [if_pos c] at hr0; exact hr0 (by decide)
