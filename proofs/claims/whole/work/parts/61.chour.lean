/-! ===== the class's hour ===== -/
/-- what the class keeps beside the fullest face: its tonnes -/
def mostF (v : vS) (n : Nat) : Int32 := if fulF v n = -6 then 0 else v (26 + 4 * nn (fulF v n))
theorem c_fullest_l {k : Int32 → qS → Prop} {q : qS} {v : vS} {F : Nat} (h4 : q 0 4 = nI F) (hF : F ≤ 8) (hr : rF q v F) : ∀ (d i n : Nat), i + d = F → d < n → k (fulF v F) q → wX3_fullest_b7 k n q (fulF v i) (mostF v i) (nI i) := by
  intro d
  induction d with
  | zero =>
    intro i n hi hn h
    obtain ⟨n, rfl⟩ : ∃ m, n = m + 1 := ⟨n - 1, by omega⟩
    unfold wX3_fullest_b7 wX3_fullest_b46
    refine pk_le F i (fun _ => ?_) (fun c => by omega) h4 rfl (by omega) (by omega)
    rw [show i = F from by omega]; exact h
  | succ d ih =>
    intro i n hi hn h
    obtain ⟨n, rfl⟩ : ∃ m, n = m + 1 := ⟨n - 1, by omega⟩
    unfold wX3_fullest_b7 wX3_fullest_b46 wX3_fullest_b40
    refine pk_le F i (fun c => by omega) (fun _ => ?_) h4 rfl (by omega) (by omega)
    refine pk_le 8 i (fun c => by omega) (fun _ => ?_) rfl rfl (by omega) (by omega)
    have L := ih (i + 1) n (by omega) (by omega) h
    rw [nI_clamp (by omega), (hr i (by omega)).1]
    unfold mostF at L ⊢
    have ci : nn (nI i) = i := nI_clamp (by omega)
    have hi6 : ¬ nI i = -6 := nI_ne6 (by omega)
    refine ⟨vp_in_nI (by omega) (by omega), fun c => ?_, fun c => ⟨vp_in_nI (by omega) (by omega), fun y2 e2 => ?_⟩⟩
    · intro y e
      rw [e, nI_1]
      have e1 : fulF v (i + 1) = fulF v i := by
        rw [fulF]
        rcases fulF_cases v i with z | ⟨j, hj, z⟩
        · rw [if_pos z] at c; rw [if_pos c]
        · rw [if_neg (by rw [z]; exact nI_ne6 (by omega))] at c
          by_cases c1 : v (26 + 4 * i) ≤ 0
          · rw [if_pos c1]
          · rw [if_neg c1, if_neg (by rw [z]; exact nI_ne6 (by omega)), if_pos c]
      rw [e1] at L
      exact L
    · intro y e
      rw [e, nI_1, e2]
      have e1 : fulF v (i + 1) = nI i := by
        rw [fulF]
        rcases fulF_cases v i with z | ⟨j, hj, z⟩
        · rw [if_pos z] at c; rw [if_neg c, if_pos z]
        · have z6 : ¬ fulF v i = -6 := by rw [z]; exact nI_ne6 (by omega)
          have hp := ful_pos v i j (by omega) z (by omega)
          rw [if_neg z6] at c
          have cj : nn (fulF v i) = j := by rw [z]; exact nI_clamp (by omega)
          rw [cj] at c
          have c1 : ¬ v (26 + 4 * i) ≤ 0 := by
            rw [le_I] at c hp ⊢
            have h0 : ((0 : Int32)).toInt = 0 := by decide
            omega
          rw [if_neg c1, if_neg z6, cj, if_neg c]
      rw [e1, if_neg hi6, ci] at L
      exact L
theorem c_fullest {k : Int32 → qS → Prop} {q : qS} {v : vS} {F : Nat} (h4 : q 0 4 = nI F) (hF : F ≤ 8) (hr : rF q v F) (h : k (fulF v F) q) : wX3_fullest k q := by
  have L := c_fullest_l h4 hF hr F 0 (F + 1) (by omega) (by omega) h
  exact ⟨F + 1, L⟩
/-- trucks beyond the setting wait -/
theorem comes_none {v : vS} {t : Nat} (h : v (58 + 4 * t) = 0) : comesF v t = v := by
  unfold comesF; rw [if_pos (by rw [h]; decide)]
theorem comesL_none : ∀ (d t : Nat) (v : vS), (∀ i, t ≤ i → i < t + d → v (58 + 4 * i) = 0) → comesL d t v = v
  | 0, _, _, _ => rfl
  | d + 1, t, v, h => by
    unfold comesL
    rw [comes_none (h t (by omega) (by omega))]
    exact comesL_none d (t + 1) v (fun i a b => h i (by omega) (by omega))
theorem comesL_add : ∀ (a b t : Nat) (v : vS), comesL (a + b) t v = comesL b (t + a) (comesL a t v)
  | 0, b, t, v => by rw [Nat.zero_add]; rfl
  | a + 1, b, t, v => by
    rw [show a + 1 + b = a + b + 1 from by omega]
    show comesL (a + b) (t + 1) (comesF v t) = comesL b (t + (a + 1)) (comesL a (t + 1) (comesF v t))
    rw [comesL_add a b (t + 1), show t + 1 + a = t + (a + 1) from by omega]
theorem comes_20 {v : vS} {T F C N : Nat} (hv : Inv v T F C N) : comesL 20 0 v = comesL T 0 v := by
  have hT := hv.1.2.1
  have a1 := (Inv_comesL T 0 v N hv (by omega)).1
  have e := comesL_add T (20 - T) 0 v
  rw [show T + (20 - T) = 20 from by omega, Nat.zero_add] at e
  rw [e]
  exact comesL_none _ _ _ (fun i i1 i2 => (a1.2.2.2.2.2 i (by omega)).1 i1)
theorem RQ_comes {q : qS} {v : vS} {T F C N t f x : Nat} (hq : RQ q v F C) (hv : Inv v T F C N) (ht : t < 20) (hf : f < F) (ef : v (58 + 4 * t) = nI (f + 1)) (ex : v (27 + 4 * f) = nI x) (x1 : 1 ≤ x) (x9 : x ≤ 9) (e60 : v (60 + 4 * t) = v 6) : RQ (up2 (up2 q 10 x (v (16 + x) + v (59 + 4 * t))) 6 t (-6)) (comesF v t) F C := by
  obtain ⟨hS, h0, hB, hFF, hTT, hC⟩ := hq
  have hF8 := hv.1.2.2.2.1
  have hC12 := hv.2.2.2.1.2.1
  have cf : nn (v (58 + 4 * t)) - 1 = f := by rw [ef]; unfold nn; rw [nI_clamp (by omega)]; omega
  have cx : nn (nI x) = x := nI_clamp (by omega)
  have e : comesF v t = upd (upd (upd (upd v (16 + x) (v (16 + x) + v (59 + 4 * t))) (58 + 4 * t) 0) (59 + 4 * t) 0) (60 + 4 * t) 0 := by
    unfold comesF
    rw [if_neg (by rw [ef, nI_le0 (by omega)]; omega), if_neg (fun z => z e60), cf, ex, cx]
  rw [e]
  have key : ∀ j, j ≠ 16 + x → j ≠ 58 + 4 * t → j ≠ 59 + 4 * t → j ≠ 60 + 4 * t → upd (upd (upd (upd v (16 + x) (v (16 + x) + v (59 + 4 * t))) (58 + 4 * t) 0) (59 + 4 * t) 0) (60 + 4 * t) 0 j = v j := by
    intro j p1 p2 p3 p4
    rw [upd_n p4, upd_n p3, upd_n p2, upd_n p1]
  have kx : upd (upd (upd (upd v (16 + x) (v (16 + x) + v (59 + 4 * t))) (58 + 4 * t) 0) (59 + 4 * t) 0) (60 + 4 * t) 0 (16 + x) = v (16 + x) + v (59 + 4 * t) := by
    rw [upd_n (by omega), upd_n (by omega), upd_n (by omega), upd_s]
  have k58 : upd (upd (upd (upd v (16 + x) (v (16 + x) + v (59 + 4 * t))) (58 + 4 * t) 0) (59 + 4 * t) 0) (60 + 4 * t) 0 (58 + 4 * t) = 0 := by
    rw [upd_n (by omega), upd_n (by omega), upd_s]
  have g : ∀ i, i ≠ 10 → i ≠ 6 → up2 (up2 q 10 x (v (16 + x) + v (59 + 4 * t))) 6 t (-6) i = q i := fun i a b => by rw [up2_A, upA_n b, up2_A, upA_n a]
  have g10 : up2 (up2 q 10 x (v (16 + x) + v (59 + 4 * t))) 6 t (-6) 10 = upd (q 10) x (v (16 + x) + v (59 + 4 * t)) := by rw [up2_A, upA_n (by decide), up2_A, upA_s]
  have g6 : up2 (up2 q 10 x (v (16 + x) + v (59 + 4 * t))) 6 t (-6) 6 = upd (q 6) t (-6) := by rw [up2_A, upA_s, up2_A, upA_n (by decide)]
  generalize upd (upd (upd (upd v (16 + x) (v (16 + x) + v (59 + 4 * t))) (58 + 4 * t) 0) (59 + 4 * t) 0) (60 + 4 * t) 0 = w at *
  generalize up2 (up2 q 10 x (v (16 + x) + v (59 + 4 * t))) 6 t (-6) = r at *
  refine ⟨hS.k (g 1 (by decide) (by decide)) (fun j hj => key j (by omega) (by omega) (by omega) (by omega)), ?_, ⟨fun i hi => ?_, fun i i1 i9 => ?_⟩, hFF.k hF8 (g 2 (by decide) (by decide)) (g 3 (by decide) (by decide)) (g 4 (by decide) (by decide)) (g 5 (by decide) (by decide)) (fun j a b => key j (by omega) (by omega) (by omega) (by omega)), fun s hs => ?_, hC.k hC12 (g 12 (by decide) (by decide)) (fun j a b => key j (by omega) (by omega) (by omega) (by omega))⟩
  · obtain ⟨b1, b2, b3, b4, b5, b6, b7, b8⟩ := h0
    unfold r0
    rw [g 0 (by decide) (by decide), key 6 (by omega) (by omega) (by omega) (by omega), key 7 (by omega) (by omega) (by omega) (by omega), key 8 (by omega) (by omega) (by omega) (by omega), key 9 (by omega) (by omega) (by omega) (by omega), key 10 (by omega) (by omega) (by omega) (by omega), key 11 (by omega) (by omega) (by omega) (by omega), key 12 (by omega) (by omega) (by omega) (by omega), key 13 (by omega) (by omega) (by omega) (by omega)]
    exact ⟨b1, b2, b3, b4, b5, b6, b7, b8⟩
  · rw [g 11 (by decide) (by decide), key _ (by omega) (by omega) (by omega) (by omega)]; exact hB.1 i hi
  · rw [g10]
    by_cases z : i = x
    · subst z; rw [upd_s, kx]
    · rw [upd_n z, key _ (by omega) (by omega) (by omega) (by omega)]; exact hB.2 i i1 i9
  · rw [g 9 (by decide) (by decide), g 7 (by decide) (by decide), g 8 (by decide) (by decide), g6]
    obtain ⟨s1, s2, s3⟩ := hTT s hs
    by_cases z : s = t
    · subst z
      rw [upd_s, k58, key (61 + 4 * s) (by omega) (by omega) (by omega) (by omega)]
      exact ⟨s1, fun _ => rfl, fun y => absurd rfl y⟩
    · rw [upd_n z, key _ (by omega) (by omega) (by omega) (by omega), key _ (by omega) (by omega) (by omega) (by omega), key _ (by omega) (by omega) (by omega) (by omega), key _ (by omega) (by omega) (by omega) (by omega)]
      exact ⟨s1, s2, s3⟩
theorem c_bring_l {k : qS → Prop} {T F C : Nat} : ∀ (d t n N : Nat) (q : qS) (v : vS), RQ q v F C → Inv v T F C N → t + d = 20 → d < n → (∀ r, RQ r (comesL d t v) F C → k r) → wX6_bringLoads_b2 k n q (nI t) := by
  intro d
  induction d with
  | zero =>
    intro t n N q v hq hv ht hn h
    obtain ⟨n, rfl⟩ : ∃ m, n = m + 1 := ⟨n - 1, by omega⟩
    unfold wX6_bringLoads_b2
    exact pk_le 20 t (fun _ => h q hq) (fun c => by omega) rfl rfl (by omega) (by omega)
  | succ d ih =>
    intro t n N q v hq hv ht hn h
    obtain ⟨n, rfl⟩ : ∃ m, n = m + 1 := ⟨n - 1, by omega⟩
    have ct : Int32.toNatClampNeg (nI t) = t := nI_clamp (by omega)
    have v20 : vp_in (nI t) 20 := vp_in_nI (by omega) (by omega)
    obtain ⟨hS, h0, hB, hFF, hTT, hC⟩ := id hq
    obtain ⟨q1, q2, q3, q4, q5, q6⟩ := id hv.1
    have h4 : q 0 4 = nI F := by rw [h0.2.1]; exact q3
    have stay : comesF v t = v → wX6_bringLoads_b81 k (wX6_bringLoads_b2 k n) q (nI t) := by
      intro e
      unfold wX6_bringLoads_b81
      intro y ey
      rw [ey, nI_1]
      refine ih (t + 1) n N q v hq hv (by omega) (by omega) (fun r hr => h r ?_)
      show RQ r (comesL d (t + 1) (comesF v t)) F C
      rw [e]; exact hr
    unfold wX6_bringLoads_b2
    refine pk_le 20 t (fun c => by omega) (fun _ => ?_) rfl rfl (by omega) (by omega)
    rw [ct]
    obtain ⟨t1, t2, t3⟩ := hTT t (by omega)
    obtain ⟨a, a1, a2⟩ := q5 t (by omega)
    refine ⟨v20, fun y2 e2 => ⟨v20, fun c1 => ?_, fun c1 => ?_⟩⟩
    · refine stay ?_
      by_cases z : v (58 + 4 * t) = 0
      · exact comes_none z
      · unfold comesF
        rw [if_neg (fun y => z (by rw [a2, nI_le0 (by omega)] at y; rw [a2, y]; rfl)), if_pos (fun y => c1 (by rw [(t3 z).2.2, y]; exact h0.1.symm))]
    · by_cases z : v (58 + 4 * t) = 0
      · rw [e2, t2 z]
        refine c_hasF h4 q4 (fun y => ?_) (fun _ => ⟨fun _ => stay (comes_none z), fun y => absurd rfl y⟩)
        obtain ⟨j, hj, ej⟩ := y
        exact absurd ej.symm (nI_ne6 (by omega))
      · obtain ⟨s1, s2, s3⟩ := t3 z
        have ha0 : a ≠ 0 := fun y => z (by rw [a2, y]; rfl)
        obtain ⟨f, rfl⟩ : ∃ f, a = f + 1 := ⟨a - 1, by omega⟩
        obtain ⟨x, x1, x9, ex⟩ := q6 f (by omega)
        rw [e2, s1, a2, nI_pred]
        have e60 : v (60 + 4 * t) = v 6 := by rw [← s3, c1]; exact h0.1
        refine c_hasF h4 q4 (fun _ => ⟨fun y => absurd y (by decide), fun _ => ⟨v20, vp_in_nI (by omega) (by omega), ?_⟩⟩) (fun y => absurd ⟨f, by omega, rfl⟩ y)
        rw [nI_clamp (by omega), s2, (hFF f (by omega)).2.1, ex]
        unfold wX2_bring wX2_bring_b20
        refine c_in (fun _ => ⟨fun y => absurd y (by decide), fun _ => ?_⟩) (fun y => absurd (isIn_nI (a := 1) (b := 9) (by omega) (by omega) (by omega) (by omega)) y)
        rw [nI_clamp (by omega)]
        refine ⟨vp_in_nI (by omega) (by omega), fun y3 e3 => ⟨vp_in_nI (by omega) (by omega), fun q4' e4 => ⟨v20, fun q7 e7 => ?_⟩⟩⟩
        unfold wX6_bringLoads_b81
        intro y ey
        rw [hB.2 x x1 x9] at e3
        rw [ey, nI_1, e7, e4, e3]
        have hq2 := RQ_comes hq hv (by omega) (by omega) a2 ex x1 x9 e60
        exact ih (t + 1) n (N + 1) _ _ hq2 (hv.comes (by omega)) (by omega) (by omega) h
theorem c_bringLoads {k : qS → Prop} {T F C N : Nat} {q : qS} {v : vS} (hq : RQ q v F C) (hv : Inv v T F C N) (h : ∀ r, RQ r (comesL T 0 v) F C → k r) : wX6_bringLoads k q :=
  ⟨21, c_bring_l 20 0 21 N q v hq hv (by omega) (by omega) (by rw [comes_20 hv]; exact h)⟩
