/-! ===== the class: a quarry copied ===== -/
theorem cpy_lt {f g : Nat → Int32} {n j : Nat} (h : j < n) : va_cpy f g 0 0 n j = f j := by
  unfold va_cpy; rw [if_pos (by omega)]; exact congrArg f (by omega)
theorem c_copy3 {k : qS → qS → Prop} {q o : qS} (hk : ∀ r : qS, (∀ j, j < 8 → r 2 j = o 2 j) → (∀ j, j < 8 → r 3 j = o 3 j) → (∀ j, j < 8 → r 4 j = o 4 j) → (∀ j, j < 8 → r 5 j = o 5 j) → r 0 4 = o 0 4 → (∀ j, j ≠ 4 → r 0 j = q 0 j) → (∀ i, i = 1 ∨ 6 ≤ i → r i = q i) → k r o) : wX3_copyFrom k q o := by
  unfold wX3_copyFrom
  intro a1 h1 a2 h2 a3 h3 a4 h4 y5 g5 a6 h6
  refine hk a6 (fun j hj => ?_) (fun j hj => ?_) (fun j hj => ?_) (fun j hj => ?_) ?_ (fun j hj => ?_) (fun i hi => ?_)
  · rw [h6, up2_A, upA_n (by decide), h4, upA_n (by decide), h3, upA_n (by decide), h2, upA_n (by decide), h1, upA_s]; exact cpy_lt hj
  · rw [h6, up2_A, upA_n (by decide), h4, upA_n (by decide), h3, upA_n (by decide), h2, upA_s]; exact cpy_lt hj
  · rw [h6, up2_A, upA_n (by decide), h4, upA_n (by decide), h3, upA_s]; exact cpy_lt hj
  · rw [h6, up2_A, upA_n (by decide), h4, upA_s]; exact cpy_lt hj
  · rw [h6, up2_A, upA_s, upd_s, g5]
  · rw [h6, up2_A, upA_s, upd_n hj, h4, upA_n (by decide), h3, upA_n (by decide), h2, upA_n (by decide), h1, upA_n (by decide)]
  · rw [h6, up2_A, upA_n (by omega), h4, upA_n (by omega), h3, upA_n (by omega), h2, upA_n (by omega), h1, upA_n (by omega)]
theorem c_copy8 {k : qS → qS → Prop} {q o : qS} (hk : ∀ r : qS, (∀ j, j < 20 → r 6 j = o 6 j) → (∀ j, j < 20 → r 7 j = o 7 j) → (∀ j, j < 20 → r 8 j = o 8 j) → (∀ j, j < 20 → r 9 j = o 9 j) → (∀ i, i < 6 ∨ 10 ≤ i → r i = q i) → k r o) : wX8_copyFrom k q o := by
  unfold wX8_copyFrom
  intro a1 h1 a2 h2 a3 h3 a4 h4
  refine hk a4 (fun j hj => ?_) (fun j hj => ?_) (fun j hj => ?_) (fun j hj => ?_) (fun i hi => ?_)
  · rw [h4, upA_n (by decide), h3, upA_n (by decide), h2, upA_n (by decide), h1, upA_s]; exact cpy_lt hj
  · rw [h4, upA_n (by decide), h3, upA_n (by decide), h2, upA_s]; exact cpy_lt hj
  · rw [h4, upA_n (by decide), h3, upA_s]; exact cpy_lt hj
  · rw [h4, upA_s]; exact cpy_lt hj
  · rw [h4, upA_n (by omega), h3, upA_n (by omega), h2, upA_n (by omega), h1, upA_n (by omega)]
theorem c_copy2 {k : qS → qS → Prop} {q o : qS} (hk : ∀ r : qS, (∀ j, j < 10 → r 10 j = o 10 j) → (∀ j, j < 3 → r 11 j = o 11 j) → r 0 6 = o 0 6 → r 0 7 = o 0 7 → (∀ j, j ≠ 6 → j ≠ 7 → r 0 j = q 0 j) → (∀ i, i ≠ 0 → i < 10 ∨ 12 ≤ i → r i = q i) → k r o) : wX2_copyFrom k q o := by
  unfold wX2_copyFrom
  intro a1 h1 a2 h2 y3 g3 a4 h4 y5 g5 a6 h6
  refine hk a6 (fun j hj => ?_) (fun j hj => ?_) ?_ ?_ (fun j hj hj2 => ?_) (fun i hi hi2 => ?_)
  · rw [h6, up2_A, upA_n (by decide), h4, up2_A, upA_n (by decide), h2, upA_n (by decide), h1, upA_s]; exact cpy_lt hj
  · rw [h6, up2_A, upA_n (by decide), h4, up2_A, upA_n (by decide), h2, upA_s]; exact cpy_lt hj
  · rw [h6, up2_A, upA_s, upd_n (by decide), h4, up2_A, upA_s, upd_s, g3]
  · rw [h6, up2_A, upA_s, upd_s, g5]
  · rw [h6, up2_A, upA_s, upd_n hj2, h4, up2_A, upA_s, upd_n hj, h2, upA_n (by decide), h1, upA_n (by decide)]
  · rw [h6, up2_A, upA_n hi, h4, up2_A, upA_n hi, h2, upA_n (by omega), h1, upA_n (by omega)]
theorem c_copy1 {k : qS → qS → Prop} {q o : qS} (hk : ∀ r : qS, (∀ j, j < 72 → r 12 j = o 12 j) → r 0 5 = o 0 5 → (∀ j, j ≠ 5 → r 0 j = q 0 j) → (∀ i, i ≠ 0 → i ≠ 12 → r i = q i) → k r o) : wX1_copyFrom k q o := by
  unfold wX1_copyFrom
  intro a1 h1 y3 g3 a4 h4
  refine hk a4 (fun j hj => ?_) ?_ (fun j hj => ?_) (fun i hi hi2 => ?_)
  · rw [h4, up2_A, upA_n (by decide), h1, upA_s]; exact cpy_lt hj
  · rw [h4, up2_A, upA_s, upd_s, g3]
  · rw [h4, up2_A, upA_s, upd_n hj, h1, upA_n (by decide)]
  · rw [h4, up2_A, upA_n hi, h1, upA_n hi2]
theorem c_copy {k : qS → qS → Prop} {q o : qS} {v : vS} {F C : Nat} (h : RQ o v F C) (hF : F ≤ 8) (hC : C ≤ 12) (hk : ∀ r, RQ r v F C → k r o) : wX6_copyFrom k q o := by
  obtain ⟨hS, h0, hB, hFF, hTT, hCC⟩ := h
  unfold wX6_copyFrom
  intro q1 e1
  refine c_copy3 (fun r3 a2 a3 a4 a5 a04 a0 ai => c_copy8 (fun r8 b6 b7 b8 b9 bi => c_copy2 (fun r2 c10 c11 c06 c07 c0 ci => c_copy1 (fun r1 d12 d05 d0 di y14 f14 z0 g0 y16 f16 z1 g1 y18 f18 z2 g2 y20 f20 z3 g3 => ?_))))
  have gi : ∀ i, i ≠ 0 → z3 i = r1 i := fun i hi => by rw [g3, up2_A, upA_n hi, g2, up2_A, upA_n hi, g1, up2_A, upA_n hi, g0, up2_A, upA_n hi]
  have gj : ∀ j, 4 ≤ j → z3 0 j = r1 0 j := fun j hj => by rw [g3, up2_A, upA_s, upd_n (by omega), g2, up2_A, upA_s, upd_n (by omega), g1, up2_A, upA_s, upd_n (by omega), g0, up2_A, upA_s, upd_n (by omega)]
  have x0 : z3 0 0 = o 0 0 := by rw [g3, up2_A, upA_s, upd_n (by omega), g2, up2_A, upA_s, upd_n (by omega), g1, up2_A, upA_s, upd_n (by omega), g0, up2_A, upA_s, upd_s, f14]
  have x1 : z3 0 1 = o 0 1 := by rw [g3, up2_A, upA_s, upd_n (by omega), g2, up2_A, upA_s, upd_n (by omega), g1, up2_A, upA_s, upd_s, f16]
  have x2 : z3 0 2 = o 0 2 := by rw [g3, up2_A, upA_s, upd_n (by omega), g2, up2_A, upA_s, upd_s, f18]
  have x3 : z3 0 3 = o 0 3 := by rw [g3, up2_A, upA_s, upd_s, f20]
  have x4 : z3 0 4 = o 0 4 := by rw [gj 4 (by omega), d0 4 (by omega), c0 4 (by omega) (by omega), bi 0 (by omega), a04]
  have x5 : z3 0 5 = o 0 5 := by rw [gj 5 (by omega), d05]
  have x6 : z3 0 6 = o 0 6 := by rw [gj 6 (by omega), d0 6 (by omega), c06]
  have x7 : z3 0 7 = o 0 7 := by rw [gj 7 (by omega), d0 7 (by omega), c07]
  have l1 : ∀ j, j < 6 → z3 1 j = o 1 j := fun j hj => by rw [gi 1 (by omega), di 1 (by omega) (by omega), ci 1 (by omega) (by omega), bi 1 (by omega), ai 1 (by omega), e1, upA_s]; exact cpy_lt hj
  have l2 : ∀ j, j < 8 → z3 2 j = o 2 j := fun j hj => by rw [gi 2 (by omega), di 2 (by omega) (by omega), ci 2 (by omega) (by omega), bi 2 (by omega), a2 j hj]
  have l3 : ∀ j, j < 8 → z3 3 j = o 3 j := fun j hj => by rw [gi 3 (by omega), di 3 (by omega) (by omega), ci 3 (by omega) (by omega), bi 3 (by omega), a3 j hj]
  have l4 : ∀ j, j < 8 → z3 4 j = o 4 j := fun j hj => by rw [gi 4 (by omega), di 4 (by omega) (by omega), ci 4 (by omega) (by omega), bi 4 (by omega), a4 j hj]
  have l5 : ∀ j, j < 8 → z3 5 j = o 5 j := fun j hj => by rw [gi 5 (by omega), di 5 (by omega) (by omega), ci 5 (by omega) (by omega), bi 5 (by omega), a5 j hj]
  have l6 : ∀ j, j < 20 → z3 6 j = o 6 j := fun j hj => by rw [gi 6 (by omega), di 6 (by omega) (by omega), ci 6 (by omega) (by omega), b6 j hj]
  have l7 : ∀ j, j < 20 → z3 7 j = o 7 j := fun j hj => by rw [gi 7 (by omega), di 7 (by omega) (by omega), ci 7 (by omega) (by omega), b7 j hj]
  have l8 : ∀ j, j < 20 → z3 8 j = o 8 j := fun j hj => by rw [gi 8 (by omega), di 8 (by omega) (by omega), ci 8 (by omega) (by omega), b8 j hj]
  have l9 : ∀ j, j < 20 → z3 9 j = o 9 j := fun j hj => by rw [gi 9 (by omega), di 9 (by omega) (by omega), ci 9 (by omega) (by omega), b9 j hj]
  have l10 : ∀ j, j < 10 → z3 10 j = o 10 j := fun j hj => by rw [gi 10 (by omega), di 10 (by omega) (by omega), c10 j hj]
  have l11 : ∀ j, j < 3 → z3 11 j = o 11 j := fun j hj => by rw [gi 11 (by omega), di 11 (by omega) (by omega), c11 j hj]
  have l12 : ∀ j, j < 72 → z3 12 j = o 12 j := fun j hj => by rw [gi 12 (by omega), d12 j hj]
  refine hk z3 ⟨fun i hi => by rw [l1 i hi]; exact hS i hi, ?_, ⟨fun i hi => by rw [l11 i hi]; exact hB.1 i hi, fun i i1 i9 => by rw [l10 i (by omega)]; exact hB.2 i i1 i9⟩, fun f hf => ?_, fun t ht => ?_, fun c hc j hj => by rw [l12 _ (by omega)]; exact hCC c hc j hj⟩
  · unfold r0 at h0 ⊢
    rw [x0, x1, x2, x3, x4, x5, x6, x7]; exact h0
  · rw [l2 f (by omega), l3 f (by omega), l4 f (by omega), l5 f (by omega)]; exact hFF f hf
  · rw [l6 t ht, l7 t ht, l8 t ht, l9 t ht]; exact hTT t ht
