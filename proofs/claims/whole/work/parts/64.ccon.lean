/-! ===== the class's contracts ===== -/
/-- a blend worked out changes numbers that tell nothing of the state -/
theorem RQ.bl {q : qS} {v : vS} {F C : Nat} {f : Nat → Int32} (h : RQ q v F C) (hf : ∀ j, j < 8 → f j = q 0 j) : RQ (upA q 0 f) v F C := by
  obtain ⟨hS, h0, hB, hFF, hTT, hC⟩ := h
  have g : ∀ i, i ≠ 0 → upA q 0 f i = q i := fun i hi => upA_n hi
  refine ⟨?_, ?_, ⟨?_, ?_⟩, ?_, ?_, ?_⟩
  · unfold rS; rw [g 1 (by decide)]; exact hS
  · unfold r0
    rw [upA_s, hf 0 (by omega), hf 1 (by omega), hf 2 (by omega), hf 3 (by omega), hf 4 (by omega), hf 5 (by omega), hf 6 (by omega), hf 7 (by omega)]; exact h0
  · rw [g 11 (by decide)]; exact hB.1
  · rw [g 10 (by decide)]; exact hB.2
  · unfold rF; rw [g 2 (by decide), g 3 (by decide), g 4 (by decide), g 5 (by decide)]; exact hFF
  · unfold rT; rw [g 6 (by decide), g 7 (by decide), g 8 (by decide), g 9 (by decide)]; exact hTT
  · unfold rC; rw [g 12 (by decide)]; exact hC
theorem c_reason {k : Int32 → qS → Prop} {q : qS} {v : vS} {c : Nat} (hB : ∀ i, i < 3 → q 11 i = v (14 + i)) (h8 : q 0 8 = trF v c 0) (h9 : q 0 9 = upF (trF v c 1) (trF v c 0)) (h10 : q 0 10 = trF v c 2 * trF v c 0 / 100) (h11 : q 0 11 = upF (trF v c 3) (trF v c 0)) (h12 : q 0 12 = trF v c 4 * trF v c 0 / 100) (h13 : q 0 13 = fineF v c) (hk : k (reasonF v c) q) : wX0_reasonAgainst k q := by
  have b0 := hB 0 (by omega)
  have b1 := hB 1 (by omega)
  have b2 := hB 2 (by omega)
  unfold wX0_reasonAgainst wX0_reasonAgainst_b58 wX0_reasonAgainst_b105 wX0_reasonAgainst_b110
  rw [h8, h9, h10, h11, h12, h13, b0, b1, b2]
  unfold reasonF at hk
  refine ⟨fun d1 => ⟨fun d2 => ?_, fun d2 => ⟨fun d3 => ?_, fun d3 => ⟨fun d4 => ⟨fun d5 => ⟨fun d6 => ⟨fun d7 => ?_, fun d7 => ⟨fun d8 => ?_, fun d8 => ?_⟩⟩, fun d6 => ?_⟩, fun d5 => ?_⟩, fun d4 => ?_⟩⟩⟩, fun d1 => ?_⟩
  · rw [if_neg (fun z => z d1), if_pos (fun z => z.1 d2)] at hk; exact hk
  · rw [if_neg (fun z => z d1), if_pos (fun z => z.2.1 d3)] at hk; exact hk
  · rw [if_neg (fun z => z d1), if_neg (fun z => z ⟨d2, d3, by rw [lt_I]; rw [le_I] at d4; omega⟩), if_neg (fun z => z d5), if_neg (fun z => z d6), if_pos (Or.inl d7)] at hk; exact hk
  · rw [if_neg (fun z => z d1), if_neg (fun z => z ⟨d2, d3, by rw [lt_I]; rw [le_I] at d4; omega⟩), if_neg (fun z => z d5), if_neg (fun z => z d6), if_neg (fun z => z.elim d7 (fun y => by have y2 : v 14 < fineF v c := y; rw [lt_I] at y2; have d9 : fineF v c ≤ v 14 := d8; rw [le_I] at d9; omega))] at hk; exact hk
  · rw [if_neg (fun z => z d1), if_neg (fun z => z ⟨d2, d3, by rw [lt_I]; rw [le_I] at d4; omega⟩), if_neg (fun z => z d5), if_neg (fun z => z d6), if_pos (Or.inr (by have d9 : ¬ fineF v c ≤ v 14 := d8; rw [le_I] at d9; show v 14 < fineF v c; rw [lt_I]; omega))] at hk; exact hk
  · rw [if_neg (fun z => z d1), if_neg (fun z => z ⟨d2, d3, by rw [lt_I]; rw [le_I] at d4; omega⟩), if_neg (fun z => z d5), if_pos d6] at hk; exact hk
  · rw [if_neg (fun z => z d1), if_neg (fun z => z ⟨d2, d3, by rw [lt_I]; rw [le_I] at d4; omega⟩), if_pos d5] at hk; exact hk
  · rw [if_neg (fun z => z d1), if_pos (fun z => d4 (by have y := z.2.2; rw [lt_I] at y; rw [le_I]; omega))] at hk; exact hk
  · rw [if_pos d1] at hk; exact hk
set_option maxHeartbeats 2000000 in
theorem c_workOut {k : qS → Prop} {q : qS} {v : vS} {F C c : Nat} (hq : RQ q v F C) (h8 : v 8 = nI C) (hC : C ≤ 12) (hc : c < C) (hk : ∀ r, RQ r v F C → r 0 15 = reasonF v c → r 0 8 = trF v c 0 → r 0 13 = fineF v c → r 0 14 = coarseF v c → k r) : wX0_workOut k q (nI c) := by
  have h5 : q 0 5 = nI C := by rw [hq.2.1.2.2.1]; exact h8
  have tm : ∀ j, j < 6 → q 12 (6 * c + j) = trF v c j := fun j hj => hq.2.2.2.2.2 c hc j hj
  have b1 := hq.2.2.1.1 1 (by omega)
  have b2 := hq.2.2.1.1 2 (by omega)
  have n12 : (12 : Nat) ≠ 0 := by decide
  have n11 : (11 : Nat) ≠ 0 := by decide
  have up5 : ∀ {f : Nat → Int32} {x : Int32} {j : Nat}, 8 ≤ j → upd f j x 5 = f 5 := fun {f x j} b => upd_n (by omega)
  unfold wX0_workOut
  refine c_term h5 hC hc 0 (by omega) ?_
  intro q3 e3
  rw [tm 0 (by omega)] at e3
  refine c_term (by rw [e3, up2_A, upA_s, up5 (by omega)]; exact h5) hC hc 1 (by omega) ?_
  intro y6 e6 q7 e7
  have f6 : y6 = upF (trF v c 1) (trF v c 0) := by
    rw [e6, e3, up2_A, upA_s, upd_s, upA_n n12, tm 1 (by omega), Int32.mul_comm]; rfl
  refine c_term (by rw [e7, e3]; simp only [up2_A, upA_A, upA_s]; rw [up5 (by omega), up5 (by omega)]; exact h5) hC hc 2 (by omega) ?_
  intro y10 e10 q11 e11
  have f10 : y10 = trF v c 2 * trF v c 0 / 100 := by
    rw [e10, e7, e3]; simp only [up2_A, upA_A, upA_s, upA_n n12]; rw [upd_n (by omega), upd_s, tm 2 (by omega), Int32.mul_comm]
  refine c_term (by rw [e11, e7, e3]; simp only [up2_A, upA_A, upA_s]; rw [up5 (by omega), up5 (by omega), up5 (by omega)]; exact h5) hC hc 3 (by omega) ?_
  intro y14 e14 q15 e15
  have f14 : y14 = upF (trF v c 3) (trF v c 0) := by
    rw [e14, e11, e7, e3]; simp only [up2_A, upA_A, upA_s, upA_n n12]; rw [upd_n (by omega), upd_n (by omega), upd_s, tm 3 (by omega), Int32.mul_comm]; rfl
  refine c_term (by rw [e15, e11, e7, e3]; simp only [up2_A, upA_A, upA_s]; rw [up5 (by omega), up5 (by omega), up5 (by omega), up5 (by omega)]; exact h5) hC hc 4 (by omega) ?_
  intro y18 e18 q19 e19 y20 e20 y21 e21 q22 e22 y23 e23 q24 e24
  have f18 : y18 = trF v c 4 * trF v c 0 / 100 := by
    rw [e18, e15, e11, e7, e3]; simp only [up2_A, upA_A, upA_s, upA_n n12]; rw [upd_n (by omega), upd_n (by omega), upd_n (by omega), upd_s, tm 4 (by omega), Int32.mul_comm]
  have g19 : q19 = upA q 0 (upd (upd (upd (upd (upd (q 0) 8 (trF v c 0)) 9 (upF (trF v c 1) (trF v c 0))) 10 (trF v c 2 * trF v c 0 / 100)) 11 (upF (trF v c 3) (trF v c 0))) 12 (trF v c 4 * trF v c 0 / 100)) := by
    rw [e19, e15, e11, e7, e3, f18, f14, f10, f6]; simp only [up2_A, upA_A, upA_s]
  have v8 : q19 0 8 = trF v c 0 := by rw [g19, upA_s, upd_n (by omega), upd_n (by omega), upd_n (by omega), upd_n (by omega), upd_s]
  have v9 : q19 0 9 = upF (trF v c 1) (trF v c 0) := by rw [g19, upA_s, upd_n (by omega), upd_n (by omega), upd_n (by omega), upd_s]
  have v10 : q19 0 10 = trF v c 2 * trF v c 0 / 100 := by rw [g19, upA_s, upd_n (by omega), upd_n (by omega), upd_s]
  have v11 : q19 0 11 = upF (trF v c 3) (trF v c 0) := by rw [g19, upA_s, upd_n (by omega), upd_s]
  have v12 : q19 0 12 = trF v c 4 * trF v c 0 / 100 := by rw [g19, upA_s, upd_s]
  have vb : q19 11 = q 11 := by rw [g19, upA_n n11]
  have vlo : ∀ j, j < 8 → q19 0 j = q 0 j := fun j hj => by rw [g19, upA_s, upd_n (by omega), upd_n (by omega), upd_n (by omega), upd_n (by omega), upd_n (by omega)]
  have f21 : y21 = coarseF v c := by
    rw [e21, e20, v8, v9, v12, vb, b2]; rfl
  have w8 : q22 0 8 = trF v c 0 := by rw [e22, up2_A, upA_s, upd_n (by omega)]; exact v8
  have w9 : q22 0 9 = upF (trF v c 1) (trF v c 0) := by rw [e22, up2_A, upA_s, upd_n (by omega)]; exact v9
  have w14 : q22 0 14 = coarseF v c := by rw [e22, up2_A, upA_s, upd_s]; exact f21
  have wb : q22 11 = q 11 := by rw [e22, up2_A, upA_n n11]; exact vb
  have f23 : y23 = fineF v c := by
    rw [e23, w8, w9, w14, wb, b1]; rfl
  have x0 : q24 0 = upd (upd (q19 0) 14 (coarseF v c)) 13 (fineF v c) := by rw [e24, e22, f23, f21]; simp only [up2_A, upA_s]
  have xb : q24 11 = q 11 := by rw [e24, up2_A, upA_n n11]; exact wb
  have gq : q24 = upA q 0 (q24 0) := by
    rw [x0]
    rw [e24, e22, g19, f23, f21]
    simp only [up2_A, upA_A, upA_s]
  refine c_reason (v := v) (c := c) (by rw [xb]; exact hq.2.2.1.1) (by rw [x0, upd_n (by omega), upd_n (by omega)]; exact v8) (by rw [x0, upd_n (by omega), upd_n (by omega)]; exact v9) (by rw [x0, upd_n (by omega), upd_n (by omega)]; exact v10) (by rw [x0, upd_n (by omega), upd_n (by omega)]; exact v11) (by rw [x0, upd_n (by omega), upd_n (by omega)]; exact v12) (by rw [x0, upd_s]) ?_
  intro q27 e27
  have y0 : q27 0 = upd (upd (upd (q19 0) 14 (coarseF v c)) 13 (fineF v c)) 15 (reasonF v c) := by rw [e27, up2_A, upA_s, x0]
  have gr : q27 = upA q 0 (q27 0) := by
    rw [y0, e27, up2_A, gq, upA_A, upA_s, x0]
  refine hk q27 ?_ (by rw [y0, upd_s]) (by rw [y0, upd_n (by omega), upd_n (by omega), upd_n (by omega)]; exact v8) (by rw [y0, upd_n (by omega), upd_s]) (by rw [y0, upd_n (by omega), upd_n (by omega), upd_s])
  rw [gr]
  exact hq.bl (fun j hj => by rw [y0, upd_n (by omega), upd_n (by omega), upd_n (by omega)]; exact vlo j hj)
/-- a contract goes -/
theorem c_dropOne {k : Int32 → qS → Prop} {q : qS} {v : vS} {T F C N c : Nat} (hq : RQ q v F (C + 1)) (hv : Inv v T F (C + 1) N) (hc : c ≤ C) (hk : ∀ r, RQ r (dropF v c) F C → k (nI C) r) : wX1_dropOne k q (nI c) := by
  obtain ⟨hS, h0, hB, hFF, hTT, hCC⟩ := id hq
  obtain ⟨h8, hC12, -⟩ := hv.2.2.2.1
  have h5 : q 0 5 = nI (C + 1) := by rw [h0.2.2.1]; exact h8
  have hF8 := hv.1.2.2.2.1
  have cc : nn (v 8) - 1 = C := by rw [h8]; unfold nn; rw [nI_clamp (by omega)]; omega
  have lo : ∀ j, j < 138 → j ≠ 8 → dropF v c j = v j := fun j a b => drop_lo (by omega) h8 hC12 a b
  have fin : ∀ p : qS, (∀ i, i ≠ 12 → p i = q i) → (∀ c2, c2 < C → ∀ j, j < 6 → p 12 (6 * c2 + j) = dropF v c (138 + 6 * c2 + j)) → wX1_dropOne_b53 k p := by
    intro p hp hp12
    unfold wX1_dropOne_b53
    intro y1 e1 q2 e2
    have f1 : y1 = nI C := by rw [e1, hp 0 (by decide), h5, nI_pred]
    have g : ∀ i, i ≠ 0 → q2 i = p i := fun i hi => by rw [e2, up2_A, upA_n hi]
    have g0 : q2 0 = upd (q 0) 5 (nI C) := by rw [e2, up2_A, upA_s, f1, hp 0 (by decide)]
    rw [show q2 0 5 = nI C from by rw [g0, upd_s]]
    refine hk q2 ⟨?_, ?_, ⟨?_, ?_⟩, ?_, ?_, ?_⟩
    · exact hS.k (by rw [g 1 (by decide), hp 1 (by decide)]) (fun j hj => lo j (by omega) (by omega))
    · obtain ⟨b1, b2, b3, b4, b5, b6, b7, b8⟩ := h0
      unfold r0
      rw [g0, lo 6 (by omega) (by omega), lo 7 (by omega) (by omega), drop_8 h8, lo 9 (by omega) (by omega), lo 10 (by omega) (by omega), lo 11 (by omega) (by omega), lo 12 (by omega) (by omega), lo 13 (by omega) (by omega), upd_n (by omega), upd_n (by omega), upd_s, upd_n (by omega), upd_n (by omega), upd_n (by omega), upd_n (by omega), upd_n (by omega)]
      exact ⟨b1, b2, rfl, b4, b5, b6, b7, b8⟩
    · rw [g 11 (by decide), hp 11 (by decide)]; exact fun i hi => by rw [lo _ (by omega) (by omega)]; exact hB.1 i hi
    · rw [g 10 (by decide), hp 10 (by decide)]; exact fun i a b => by rw [lo _ (by omega) (by omega)]; exact hB.2 i a b
    · exact hFF.k hF8 (by rw [g 2 (by decide), hp 2 (by decide)]) (by rw [g 3 (by decide), hp 3 (by decide)]) (by rw [g 4 (by decide), hp 4 (by decide)]) (by rw [g 5 (by decide), hp 5 (by decide)]) (fun j a b => lo j (by omega) (by omega))
    · exact hTT.k (by rw [g 6 (by decide), hp 6 (by decide)]) (by rw [g 7 (by decide), hp 7 (by decide)]) (by rw [g 8 (by decide), hp 8 (by decide)]) (by rw [g 9 (by decide), hp 9 (by decide)]) (fun j a b => lo j (by omega) (by omega))
    · unfold rC; rw [g 12 (by decide)]; exact hp12
  unfold wX1_dropOne
  refine c_hasC h5 hC12 (fun _ => ⟨fun _ => ?_, fun z => absurd z (by decide)⟩) (fun z => absurd ⟨c, by omega, rfl⟩ z)
  intro y5 e5 yM eM y6 e6
  have fM : yM = nI (C + 1) := by
    rw [eM, h5]
    exact if_neg (fun z => by rw [show (12 : Int32) = nI 12 from rfl, nI_ltI (by omega) (by omega)] at z; omega)
  have f5 : y5 = nI (6 * c) := by rw [e5, show (6 : Int32) = nI 6 from rfl, pk_mul, Nat.mul_comm]
  have f6 : y6 = nI (6 * (C - c)) := by rw [e6, fM, nI_pred, pk_sub hc, show (6 : Int32) = nI 6 from rfl, pk_mul, Nat.mul_comm]
  have old : ∀ c2, c2 < C → ¬ c ≤ c2 → ∀ j, j < 6 → q 12 (6 * c2 + j) = dropF v c (138 + 6 * c2 + j) := by
    intro c2 h2 h3 j hj
    unfold dropF
    rw [cc, if_neg (by omega), if_neg (by omega), if_neg (by omega)]
    exact hCC c2 (by omega) j hj
  rw [f6, f5]
  refine ⟨fun c1 => ?_, fun c1 => ?_⟩
  · rw [nI_le0 (by omega)] at c1
    exact fin q (fun _ _ => rfl) (fun c2 h2 j hj => old c2 h2 (by omega) j hj)
  · rw [nI_le0 (by omega)] at c1
    rw [ixp6, nI_clamp (by omega), nI_clamp (by omega), nI_clamp (by omega)]
    refine ⟨nI_pos (by omega), nI_pos (by omega), nI_pos (by omega), by omega, by omega, fun q7 e7 => ?_⟩
    refine fin q7 (fun i hi => by rw [e7, upA_n hi]) (fun c2 h2 j hj => ?_)
    rw [e7, upA_s]
    by_cases h3 : c ≤ c2
    · rw [pk_cpy_in (by omega) (by omega)]
      unfold dropF
      rw [cc, if_neg (by omega), if_pos (by omega), ← (show 138 + 6 * (c2 + 1) + j = 138 + 6 * c2 + j + 6 from by omega), ← hCC (c2 + 1) (by omega) j hj]
      exact congrArg (q 12) (by omega)
    · rw [pk_cpy_out (by omega)]
      exact old c2 h2 h3 j hj
