/-! ===== the class sends trucks, crushes ===== -/
theorem RQ_send {q : qS} {v : vS} {T F C N t f : Nat} {z : Int32} (hq : RQ q v F C) (hv : Inv v T F C N) (ht : t < 20) (hf : f < F) : RQ (up2 (up2 (up2 (up2 (up2 (up2 (up2 q 2 f (v (26 + 4 * f) - z)) 3 f (v (29 + 4 * f) + z)) 6 t (nI f)) 7 t z) 8 t (v 6 + v (28 + 4 * f))) 9 t (v (61 + 4 * t) + 1)) 0 3 (v 13 + v 5 * v (28 + 4 * f))) (sendF v t f z) F C := by
  obtain ⟨hS, h0, hB, hFF, hTT, hC⟩ := hq
  have hF8 := hv.1.2.2.2.1
  have hC12 := hv.2.2.2.1.2.1
  have ek : ∀ j, j ≠ 13 → j ≠ 26 + 4 * f → j ≠ 29 + 4 * f → j ≠ 58 + 4 * t → j ≠ 59 + 4 * t → j ≠ 60 + 4 * t → j ≠ 61 + 4 * t → sendF v t f z j = v j := by
    intro j p1 p2 p3 p4 p5 p6 p7
    unfold sendF
    rw [upd_n p1, upd_n p7, upd_n p6, upd_n p5, upd_n p4, upd_n p3, upd_n p2]
  have k13 : sendF v t f z 13 = v 13 + v 5 * v (28 + 4 * f) := by unfold sendF; rw [upd_s]
  have k26 : sendF v t f z (26 + 4 * f) = v (26 + 4 * f) - z := by unfold sendF; rw [upd_n (by omega), upd_n (by omega), upd_n (by omega), upd_n (by omega), upd_n (by omega), upd_n (by omega), upd_s]
  have k29 : sendF v t f z (29 + 4 * f) = v (29 + 4 * f) + z := by unfold sendF; rw [upd_n (by omega), upd_n (by omega), upd_n (by omega), upd_n (by omega), upd_n (by omega), upd_s]
  have k58 : sendF v t f z (58 + 4 * t) = nI f + 1 := by unfold sendF; rw [upd_n (by omega), upd_n (by omega), upd_n (by omega), upd_n (by omega), upd_s]
  have k59 : sendF v t f z (59 + 4 * t) = z := by unfold sendF; rw [upd_n (by omega), upd_n (by omega), upd_n (by omega), upd_s]
  have k60 : sendF v t f z (60 + 4 * t) = v 6 + v (28 + 4 * f) := by unfold sendF; rw [upd_n (by omega), upd_n (by omega), upd_s]
  have k61 : sendF v t f z (61 + 4 * t) = v (61 + 4 * t) + 1 := by unfold sendF; rw [upd_n (by omega), upd_s]
  generalize sendF v t f z = w at *
  simp only [up2_A]
  have e0 : upA (upA (upA (upA (upA (upA (upA q 2 (upd (q 2) f (v (26 + 4 * f) - z))) 3 (upd (upA q 2 (upd (q 2) f (v (26 + 4 * f) - z)) 3) f (v (29 + 4 * f) + z))) 6 (upd (q 6) t (nI f))) 7 (upd (q 7) t z)) 8 (upd (q 8) t (v 6 + v (28 + 4 * f)))) 9 (upd (q 9) t (v (61 + 4 * t) + 1))) 0 (upd (q 0) 3 (v 13 + v 5 * v (28 + 4 * f))) = upA (upA (upA (upA (upA (upA (upA q 2 (upd (q 2) f (v (26 + 4 * f) - z))) 3 (upd (q 3) f (v (29 + 4 * f) + z))) 6 (upd (q 6) t (nI f))) 7 (upd (q 7) t z)) 8 (upd (q 8) t (v 6 + v (28 + 4 * f)))) 9 (upd (q 9) t (v (61 + 4 * t) + 1))) 0 (upd (q 0) 3 (v 13 + v 5 * v (28 + 4 * f))) := by rw [upA_n (by decide)]
  have n36 : (3 : Nat) ≠ 2 := by decide
  have n62 : (6 : Nat) ≠ 2 := by decide
  have n63 : (6 : Nat) ≠ 3 := by decide
  have n72 : (7 : Nat) ≠ 2 := by decide
  have n73 : (7 : Nat) ≠ 3 := by decide
  have n76 : (7 : Nat) ≠ 6 := by decide
  have n82 : (8 : Nat) ≠ 2 := by decide
  have n83 : (8 : Nat) ≠ 3 := by decide
  have n86 : (8 : Nat) ≠ 6 := by decide
  have n87 : (8 : Nat) ≠ 7 := by decide
  have n92 : (9 : Nat) ≠ 2 := by decide
  have n93 : (9 : Nat) ≠ 3 := by decide
  have n96 : (9 : Nat) ≠ 6 := by decide
  have n97 : (9 : Nat) ≠ 7 := by decide
  have n98 : (9 : Nat) ≠ 8 := by decide
  have n02 : (0 : Nat) ≠ 2 := by decide
  have n03 : (0 : Nat) ≠ 3 := by decide
  have n06 : (0 : Nat) ≠ 6 := by decide
  have n07 : (0 : Nat) ≠ 7 := by decide
  have n08 : (0 : Nat) ≠ 8 := by decide
  have n09 : (0 : Nat) ≠ 9 := by decide
  simp only [upA_n n36, upA_n n62, upA_n n63, upA_n n72, upA_n n73, upA_n n76, upA_n n82, upA_n n83, upA_n n86, upA_n n87, upA_n n92, upA_n n93, upA_n n96, upA_n n97, upA_n n98, upA_n n02, upA_n n03, upA_n n06, upA_n n07, upA_n n08, upA_n n09]
  have g : ∀ i, i ≠ 0 → i ≠ 2 → i ≠ 3 → i ≠ 6 → i ≠ 7 → i ≠ 8 → i ≠ 9 → upA (upA (upA (upA (upA (upA (upA q 2 (upd (q 2) f (v (26 + 4 * f) - z))) 3 (upd (q 3) f (v (29 + 4 * f) + z))) 6 (upd (q 6) t (nI f))) 7 (upd (q 7) t z)) 8 (upd (q 8) t (v 6 + v (28 + 4 * f)))) 9 (upd (q 9) t (v (61 + 4 * t) + 1))) 0 (upd (q 0) 3 (v 13 + v 5 * v (28 + 4 * f))) i = q i := by
    intro i p0 p2 p3 p6 p7 p8 p9
    rw [upA_n p0, upA_n p9, upA_n p8, upA_n p7, upA_n p6, upA_n p3, upA_n p2]
  have g0 : upA (upA (upA (upA (upA (upA (upA q 2 (upd (q 2) f (v (26 + 4 * f) - z))) 3 (upd (q 3) f (v (29 + 4 * f) + z))) 6 (upd (q 6) t (nI f))) 7 (upd (q 7) t z)) 8 (upd (q 8) t (v 6 + v (28 + 4 * f)))) 9 (upd (q 9) t (v (61 + 4 * t) + 1))) 0 (upd (q 0) 3 (v 13 + v 5 * v (28 + 4 * f))) 0 = upd (q 0) 3 (v 13 + v 5 * v (28 + 4 * f)) := upA_s
  have g2 : upA (upA (upA (upA (upA (upA (upA q 2 (upd (q 2) f (v (26 + 4 * f) - z))) 3 (upd (q 3) f (v (29 + 4 * f) + z))) 6 (upd (q 6) t (nI f))) 7 (upd (q 7) t z)) 8 (upd (q 8) t (v 6 + v (28 + 4 * f)))) 9 (upd (q 9) t (v (61 + 4 * t) + 1))) 0 (upd (q 0) 3 (v 13 + v 5 * v (28 + 4 * f))) 2 = upd (q 2) f (v (26 + 4 * f) - z) := by
    rw [upA_n (by decide), upA_n (by decide), upA_n (by decide), upA_n (by decide), upA_n (by decide), upA_n (by decide), upA_s]
  have g3 : upA (upA (upA (upA (upA (upA (upA q 2 (upd (q 2) f (v (26 + 4 * f) - z))) 3 (upd (q 3) f (v (29 + 4 * f) + z))) 6 (upd (q 6) t (nI f))) 7 (upd (q 7) t z)) 8 (upd (q 8) t (v 6 + v (28 + 4 * f)))) 9 (upd (q 9) t (v (61 + 4 * t) + 1))) 0 (upd (q 0) 3 (v 13 + v 5 * v (28 + 4 * f))) 3 = upd (q 3) f (v (29 + 4 * f) + z) := by
    rw [upA_n (by decide), upA_n (by decide), upA_n (by decide), upA_n (by decide), upA_n (by decide), upA_s]
  have g6 : upA (upA (upA (upA (upA (upA (upA q 2 (upd (q 2) f (v (26 + 4 * f) - z))) 3 (upd (q 3) f (v (29 + 4 * f) + z))) 6 (upd (q 6) t (nI f))) 7 (upd (q 7) t z)) 8 (upd (q 8) t (v 6 + v (28 + 4 * f)))) 9 (upd (q 9) t (v (61 + 4 * t) + 1))) 0 (upd (q 0) 3 (v 13 + v 5 * v (28 + 4 * f))) 6 = upd (q 6) t (nI f) := by
    rw [upA_n (by decide), upA_n (by decide), upA_n (by decide), upA_n (by decide), upA_s]
  have g7 : upA (upA (upA (upA (upA (upA (upA q 2 (upd (q 2) f (v (26 + 4 * f) - z))) 3 (upd (q 3) f (v (29 + 4 * f) + z))) 6 (upd (q 6) t (nI f))) 7 (upd (q 7) t z)) 8 (upd (q 8) t (v 6 + v (28 + 4 * f)))) 9 (upd (q 9) t (v (61 + 4 * t) + 1))) 0 (upd (q 0) 3 (v 13 + v 5 * v (28 + 4 * f))) 7 = upd (q 7) t z := by
    rw [upA_n (by decide), upA_n (by decide), upA_n (by decide), upA_s]
  have g8 : upA (upA (upA (upA (upA (upA (upA q 2 (upd (q 2) f (v (26 + 4 * f) - z))) 3 (upd (q 3) f (v (29 + 4 * f) + z))) 6 (upd (q 6) t (nI f))) 7 (upd (q 7) t z)) 8 (upd (q 8) t (v 6 + v (28 + 4 * f)))) 9 (upd (q 9) t (v (61 + 4 * t) + 1))) 0 (upd (q 0) 3 (v 13 + v 5 * v (28 + 4 * f))) 8 = upd (q 8) t (v 6 + v (28 + 4 * f)) := by
    rw [upA_n (by decide), upA_n (by decide), upA_s]
  have g9 : upA (upA (upA (upA (upA (upA (upA q 2 (upd (q 2) f (v (26 + 4 * f) - z))) 3 (upd (q 3) f (v (29 + 4 * f) + z))) 6 (upd (q 6) t (nI f))) 7 (upd (q 7) t z)) 8 (upd (q 8) t (v 6 + v (28 + 4 * f)))) 9 (upd (q 9) t (v (61 + 4 * t) + 1))) 0 (upd (q 0) 3 (v 13 + v 5 * v (28 + 4 * f))) 9 = upd (q 9) t (v (61 + 4 * t) + 1) := by
    rw [upA_n (by decide), upA_s]
  clear e0
  generalize upA (upA (upA (upA (upA (upA (upA q 2 (upd (q 2) f (v (26 + 4 * f) - z))) 3 (upd (q 3) f (v (29 + 4 * f) + z))) 6 (upd (q 6) t (nI f))) 7 (upd (q 7) t z)) 8 (upd (q 8) t (v 6 + v (28 + 4 * f)))) 9 (upd (q 9) t (v (61 + 4 * t) + 1))) 0 (upd (q 0) 3 (v 13 + v 5 * v (28 + 4 * f))) = r at *
  have el : ∀ j, j < 26 → j ≠ 13 → w j = v j := fun j a b => ek j b (by omega) (by omega) (by omega) (by omega) (by omega) (by omega)
  refine ⟨hS.k (g 1 (by decide) (by decide) (by decide) (by decide) (by decide) (by decide) (by decide)) (fun j hj => el j (by omega) (by omega)), ?_, hB.k (g 11 (by decide) (by decide) (by decide) (by decide) (by decide) (by decide) (by decide)) (g 10 (by decide) (by decide) (by decide) (by decide) (by decide) (by decide) (by decide)) (fun j a b => el j (by omega) (by omega)), fun f2 hf2 => ?_, fun s hs => ?_, hC.k hC12 (g 12 (by decide) (by decide) (by decide) (by decide) (by decide) (by decide) (by decide)) (fun j a b => ek j (by omega) (by omega) (by omega) (by omega) (by omega) (by omega) (by omega))⟩
  · obtain ⟨b1, b2, b3, b4, b5, b6, b7, b8⟩ := h0
    unfold r0
    rw [g0, el 6 (by omega) (by omega), el 7 (by omega) (by omega), el 8 (by omega) (by omega), el 9 (by omega) (by omega), el 10 (by omega) (by omega), el 11 (by omega) (by omega), el 12 (by omega) (by omega), k13, upd_n (by omega), upd_n (by omega), upd_n (by omega), upd_n (by omega), upd_n (by omega), upd_n (by omega), upd_n (by omega), upd_s]
    exact ⟨b1, b2, b3, b4, b5, b6, b7, rfl⟩
  · obtain ⟨c1, c2, c3, c4⟩ := hFF f2 hf2
    rw [g2, g3, g 4 (by decide) (by decide) (by decide) (by decide) (by decide) (by decide) (by decide), g 5 (by decide) (by decide) (by decide) (by decide) (by decide) (by decide) (by decide)]
    by_cases e : f2 = f
    · subst e
      rw [upd_s, upd_s, k26, k29, ek (27 + 4 * f2) (by omega) (by omega) (by omega) (by omega) (by omega) (by omega) (by omega), ek (28 + 4 * f2) (by omega) (by omega) (by omega) (by omega) (by omega) (by omega) (by omega)]
      exact ⟨rfl, c2, c3, rfl⟩
    · rw [upd_n e, upd_n e, ek (26 + 4 * f2) (by omega) (by omega) (by omega) (by omega) (by omega) (by omega) (by omega), ek (27 + 4 * f2) (by omega) (by omega) (by omega) (by omega) (by omega) (by omega) (by omega), ek (28 + 4 * f2) (by omega) (by omega) (by omega) (by omega) (by omega) (by omega) (by omega), ek (29 + 4 * f2) (by omega) (by omega) (by omega) (by omega) (by omega) (by omega) (by omega)]
      exact ⟨c1, c2, c3, c4⟩
  · obtain ⟨c1, c2, c3⟩ := hTT s hs
    rw [g6, g7, g8, g9]
    by_cases e : s = t
    · subst e
      rw [upd_s, upd_s, upd_s, upd_s, k58, k59, k60, k61]
      refine ⟨rfl, fun y => ?_, fun _ => ⟨by rw [nI_1, nI_pred], rfl, rfl⟩⟩
      rw [nI_1] at y
      exact absurd y (nI_ne0 (by omega) (by omega))
    · rw [upd_n e, upd_n e, upd_n e, upd_n e, ek (58 + 4 * s) (by omega) (by omega) (by omega) (by omega) (by omega) (by omega) (by omega), ek (59 + 4 * s) (by omega) (by omega) (by omega) (by omega) (by omega) (by omega) (by omega), ek (60 + 4 * s) (by omega) (by omega) (by omega) (by omega) (by omega) (by omega) (by omega), ek (61 + 4 * s) (by omega) (by omega) (by omega) (by omega) (by omega) (by omega) (by omega)]
      exact ⟨c1, c2, c3⟩
theorem goes_none {v : vS} {F t : Nat} (h7 : v 7 = nI F) (hF : F ≤ 8) (h : fulF v F = -6) : goesF v t = v := by
  have cF : nn (v 7) = F := by rw [h7]; exact nI_clamp (by omega)
  unfold goesF
  rw [cF, if_pos h]
  split <;> rfl
theorem goesL_none {v : vS} {F : Nat} (h7 : v 7 = nI F) (hF : F ≤ 8) (h : fulF v F = -6) : ∀ d t, goesL d t v = v
  | 0, _ => rfl
  | d + 1, t => by
    unfold goesL
    rw [goes_none h7 hF h]
    exact goesL_none h7 hF h d (t + 1)
theorem min_le {x y : Int32} : (if x < y then x else y) = (if y ≤ x then y else x) := by
  by_cases c : x < y
  · rw [if_pos c, if_neg (by rw [lt_I] at c; rw [le_I]; omega)]
  · rw [if_neg c, if_pos (by rw [lt_I] at c; rw [le_I]; omega)]
set_option maxHeartbeats 1000000 in
theorem c_send_l {k : qS → Prop} {T F C N : Nat} : ∀ (d t n : Nat) (q : qS) (v : vS), RQ q v F C → Inv v T F C N → t + d = T → d < n → (∀ r, RQ r (goesL d t v) F C → k r) → wX6_sendTrucks_b14 k n q (nI T) (nI t) := by
  intro d
  induction d with
  | zero =>
    intro t n q v hq hv ht hn h
    obtain ⟨n, rfl⟩ : ∃ m, n = m + 1 := ⟨n - 1, by omega⟩
    have hT := hv.1.2.1
    unfold wX6_sendTrucks_b14
    exact pk_le T t (fun _ => h q hq) (fun c => by omega) rfl rfl (by omega) (by omega)
  | succ d ih =>
    intro t n q v hq hv ht hn h
    obtain ⟨n, rfl⟩ : ∃ m, n = m + 1 := ⟨n - 1, by omega⟩
    have hT := hv.1.2.1
    have ct : Int32.toNatClampNeg (nI t) = t := nI_clamp (by omega)
    have v20 : vp_in (nI t) 20 := vp_in_nI (by omega) (by omega)
    obtain ⟨hS, h0, hB, hFF, hTT, hC⟩ := id hq
    obtain ⟨q1, q2, q3, q4, q5, q6⟩ := id hv.1
    have h4 : q 0 4 = nI F := by rw [h0.2.1]; exact q3
    obtain ⟨t1, t2, t3⟩ := hTT t (by omega)
    obtain ⟨a, a1, a2⟩ := q5 t (by omega)
    have stay : goesF v t = v → wX6_sendTrucks_b109 k (wX6_sendTrucks_b14 k n) q (nI T) (nI t) := by
      intro e
      unfold wX6_sendTrucks_b109
      intro y ey
      rw [ey, nI_1]
      refine ih (t + 1) n q v hq hv (by omega) (by omega) (fun r hr => h r ?_)
      show RQ r (goesL d (t + 1) (goesF v t)) F C
      rw [e]; exact hr
    unfold wX6_sendTrucks_b14
    refine pk_le T t (fun c => by omega) (fun _ => ?_) rfl rfl (by omega) (by omega)
    unfold wX8_isAway wX8_isAway_b25 wX8_isAway_b26
    refine c_in (fun _ => ⟨fun y => absurd y (by decide), fun _ => ?_⟩) (fun y => absurd (isIn_nI (a := 0) (b := 19) (by omega) (by omega) (by omega) (by omega)) y)
    rw [ct]
    refine ⟨v20, fun c1 => ⟨rfl, fun y => absurd rfl y, fun _ => ?_⟩, fun c1 => ⟨rfl, fun _ => ?_, fun y => absurd y (by decide)⟩⟩
    · -- the truck waits
      have z0 : v (58 + 4 * t) = 0 := by
        by_cases z : v (58 + 4 * t) = 0
        · exact z
        · rw [(t3 z).1, a2] at c1
          have ha0 : a ≠ 0 := fun y => z (by rw [a2, y]; rfl)
          obtain ⟨f, rfl⟩ : ∃ f, a = f + 1 := ⟨a - 1, by omega⟩
          rw [nI_pred] at c1
          exact absurd c1 (nI_ne6 (by omega))
      refine c_fullest h4 q4 hFF ?_
      rcases fulF_cases v F with z | ⟨f, hf, z⟩
      · rw [z]
        refine c_hasF h4 q4 (fun y => ?_) (fun _ => ⟨fun y => absurd rfl y, fun _ => h q ?_⟩)
        · obtain ⟨j, hj, ej⟩ := y
          exact absurd ej.symm (nI_ne6 (by omega))
        · rw [goesL_none q3 q4 z]; exact hq
      · rw [z]
        have cF : nn (v 7) = F := by rw [q3]; exact nI_clamp (by omega)
        have cf : Int32.toNatClampNeg (nI f) = f := nI_clamp (by omega)
        have v8 : vp_in (nI f) 8 := vp_in_nI (by omega) (by omega)
        refine c_hasF h4 q4 (fun _ => ⟨fun _ => ⟨v8, fun y8 e8 => ?_⟩, fun y => absurd y (by decide)⟩) (fun y => absurd ⟨f, hf, rfl⟩ y)
        rw [cf, (hFF f hf).2.2.1] at e8
        unfold wX3_take
        refine c_hasF h4 q4 (fun _ => ⟨fun _ => ?_, fun y => absurd y (by decide)⟩) (fun y => absurd ⟨f, hf, rfl⟩ y)
        rw [cf, (hFF f hf).1, hS 1 (by omega)]
        refine ⟨v8, fun y3 e3 => ⟨v8, fun y4 e4 => ⟨v8, fun q5' e5 => ⟨v8, fun y6 e6 => ⟨v8, fun q7 e7 => ?_⟩⟩⟩⟩⟩
        unfold wX8_send wX8_send_b42
        refine c_in (fun _ => ⟨fun y => absurd y (by decide), fun _ => ?_⟩) (fun y => absurd (isIn_nI (a := 0) (b := 19) (by omega) (by omega) (by omega) (by omega)) y)
        rw [ct]
        refine ⟨v20, fun p2 d2 => ⟨v20, fun p3 d3 => ⟨v20, fun p4 d4 => ⟨v20, fun y5 d5 => ⟨v20, fun p6 d6 => ?_⟩⟩⟩⟩⟩
        intro y13 d13 p14 d14
        unfold wX6_sendTrucks_b109
        intro y ey
        rw [ey, nI_1]
        have eg : goesF v t = sendF v t f y3 := by
          have cf2 : nn (nI f) = f := cf
          unfold goesF
          rw [if_neg (fun y => y z0), cF, if_neg (by rw [z]; exact nI_ne6 (by omega)), z, cf2, e3, min_le]
        have n1 : (0 : Nat) ≠ 2 := by decide
        have n2 : (0 : Nat) ≠ 3 := by decide
        have n3 : (0 : Nat) ≠ 6 := by decide
        have n4 : (0 : Nat) ≠ 7 := by decide
        have n5 : (0 : Nat) ≠ 8 := by decide
        have n6 : (0 : Nat) ≠ 9 := by decide
        have m1 : (1 : Nat) ≠ 2 := by decide
        have m2 : (1 : Nat) ≠ 3 := by decide
        have m3 : (1 : Nat) ≠ 6 := by decide
        have m4 : (1 : Nat) ≠ 7 := by decide
        have m5 : (1 : Nat) ≠ 8 := by decide
        have m6 : (1 : Nat) ≠ 9 := by decide
        have l1 : (3 : Nat) ≠ 2 := by decide
        have l2 : (9 : Nat) ≠ 2 := by decide
        have l3 : (9 : Nat) ≠ 3 := by decide
        have l4 : (9 : Nat) ≠ 6 := by decide
        have l5 : (9 : Nat) ≠ 7 := by decide
        have l6 : (9 : Nat) ≠ 8 := by decide
        have f6 : y6 = v (29 + 4 * f) + y3 := by
          rw [e6, e5, up2_A, upA_n l1, (hFF f hf).2.2.2]
        have f5 : y5 = v (61 + 4 * t) + 1 := by
          rw [d5, d4, d3, d2, e7, e5]
          simp only [up2_A, upA_n l2, upA_n l3, upA_n l4, upA_n l5, upA_n l6]
          rw [t1]
        have f13 : y13 = v 13 + v 5 * v (28 + 4 * f) := by
          rw [d13, d6, d4, d3, d2, e7, e5, e8]
          simp only [up2_A, upA_n n1, upA_n n2, upA_n n3, upA_n n4, upA_n n5, upA_n n6, upA_n m1, upA_n m2, upA_n m3, upA_n m4, upA_n m5, upA_n m6]
          rw [hS 5 (by omega), h0.2.2.2.2.2.2.2]
        have f0 : q7 0 0 = v 6 := by
          rw [e7, e5, up2_A, upA_n n2, up2_A, upA_n n1]; exact h0.1
        have hr : RQ p14 (sendF v t f y3) F C := by
          have X := RQ_send (z := y3) hq hv (t := t) (by omega) hf
          rw [d14, d6, d4, f0, d3, d2, e7, e5, f13, f5, f6, e4, e8]
          exact X
        refine ih (t + 1) n p14 (sendF v t f y3) hr (by rw [← eg]; exact hv.goes (by omega)) (by omega) (by omega) (fun r hr2 => h r ?_)
        show RQ r (goesL d (t + 1) (goesF v t)) F C
        rw [eg]; exact hr2
    · refine stay ?_
      unfold goesF
      rw [if_pos (fun z => c1 (t2 z))]
theorem c_sendTrucks {k : qS → Prop} {T F C N : Nat} {q : qS} {v : vS} (hq : RQ q v F C) (hv : Inv v T F C N) (h : ∀ r, RQ r (goesL T 0 v) F C → k r) : wX6_sendTrucks k q := by
  have hT := hv.1.2.1
  unfold wX6_sendTrucks
  intro y ey
  have e : y = nI T := by
    rw [ey, hq.1 0 (by omega), hv.1.1, show (20 : Int32) = nI 20 from rfl]
    by_cases c : 20 < T
    · omega
    · rw [if_neg (by rw [nI_ltI (by omega) (by omega)]; exact c)]
  rw [e]
  exact ⟨T + 1, c_send_l T 0 (T + 1) q v hq hv (by omega) (by omega) h⟩
