/-! ===== the class: a contract comes, what there is to tell ===== -/
theorem c_areH {k : Int32 → Prop} {a b : Int32} (h1 : isIn a 0 100 → isIn b a 100 → k 1) (h0 : ¬ (isIn a 0 100 ∧ isIn b a 100) → k 0) : wX1_areHundredths k a b := by
  unfold wX1_areHundredths wX1_areHundredths_b24 wX1_areHundredths_b25
  exact c_in (fun c => ⟨fun z => absurd z (by decide), fun _ => c_in (fun c2 => ⟨fun z => absurd z (by decide), fun _ => ⟨rfl, h1 c c2⟩⟩) (fun c2 => ⟨fun _ => ⟨rfl, h0 (fun z => c2 z.2)⟩, fun z => absurd rfl z⟩)⟩) (fun c => ⟨fun _ => ⟨rfl, h0 (fun z => c z.1)⟩, fun z => absurd rfl z⟩)
theorem nI_12 {C : Nat} (hC : C ≤ 12) : nI C = 12 ↔ ¬ C < 12 := by
  rw [show (12 : Int32) = nI 12 from rfl, nI_eq (by omega) (by omega)]; omega
theorem c_addContract {k : Int32 → qS → Prop} {q : qS} {v : vS} {T F C N : Nat} {t a b e f p : Int32} (hq : RQ q v F C) (hv : Inv v T F C N) (hr : refCon v t a b e f p ≠ 0 → k (refCon v t a b e f p) q) (hk : refCon v t a b e f p = 0 → C < 12 → ∀ r, RQ r (conF v C t a b e f p) F (C + 1) → k (nI C) r) : wX1_add k q t a b e f p := by
  have hF8 := hv.1.2.2.2.1
  obtain ⟨h8, hC12, -⟩ := hv.2.2.2.1
  obtain ⟨hS, h0, hB, hFF, hTT, hCC⟩ := hq
  have h5 : q 0 5 = nI C := by rw [h0.2.2.1]; exact h8
  have bad : ¬ okCon t a b e f p → k (-2) q := fun z => by
    have hz : refCon v t a b e f p = -2 := by unfold refCon; rw [if_pos z]
    rw [hz] at hr; exact hr (by decide)
  unfold wX1_add wX1_add_b40
  refine c_in (fun c1 => ⟨fun z => absurd z (by decide), fun _ => c_in (fun c2 => ⟨fun z => absurd z (by decide), fun _ => c_areH (fun c3 c4 => ⟨fun z => absurd z (by decide), fun _ => c_areH (fun c5 c6 => ⟨fun _ => ?_, fun z => absurd z (by decide)⟩) (fun c5 => ⟨fun z => absurd rfl z, fun _ => bad (fun z => c5 ⟨z.1.2.2.1, z.1.2.2.2⟩)⟩)⟩) (fun c3 => ⟨fun _ => bad (fun z => c3 ⟨z.1.1, z.1.2.1⟩), fun z => absurd rfl z⟩)⟩) (fun c2 => ⟨fun _ => bad (fun z => c2 z.2.2), fun z => absurd rfl z⟩)⟩) (fun c1 => ⟨fun _ => bad (fun z => c1 z.2.1), fun z => absurd rfl z⟩)
  have ok : okCon t a b e f p := ⟨⟨c3, c4, c5, c6⟩, c1, c2⟩
  intro y5 e5
  rw [h5] at e5
  rw [e5]
  refine c_in (fun cI => ⟨fun _ => ?_, fun z => absurd z (by decide)⟩) (fun cI => ⟨fun z => absurd rfl z, fun _ => ?_⟩)
  · have hC : C < 12 := in_top hC12 (by omega) cI
    have hz : refCon v t a b e f p = 0 := by unfold refCon; rw [if_neg (fun z => z ok), if_neg (fun z => by rw [h8, nI_12 hC12] at z; exact z hC)]
    have k0 : Int32.toNatClampNeg (nI (6 * C)) = 6 * C := nI_clamp (by omega)
    have k1 : Int32.toNatClampNeg (nI (6 * C + 1)) = 6 * C + 1 := nI_clamp (by omega)
    have k2 : Int32.toNatClampNeg (nI (6 * C + 2)) = 6 * C + 2 := nI_clamp (by omega)
    have k3 : Int32.toNatClampNeg (nI (6 * C + 3)) = 6 * C + 3 := nI_clamp (by omega)
    have k4 : Int32.toNatClampNeg (nI (6 * C + 4)) = 6 * C + 4 := nI_clamp (by omega)
    have k5 : Int32.toNatClampNeg (nI (6 * C + 5)) = 6 * C + 5 := nI_clamp (by omega)
    intro y6 e6
    rw [show (6 : Int32) = nI 6 from rfl, pk_mul, Nat.mul_comm] at e6
    subst e6
    simp only [ixp0, ixp1, ixp2, ixp3, ixp4, ixp5, k0, k1, k2, k3, k4, k5]
    refine ⟨vp_in_nI (by omega) (by omega), fun q7 d7 => ⟨vp_in_nI (by omega) (by omega), fun q8 d8 => ⟨vp_in_nI (by omega) (by omega), fun q9 d9 => ⟨vp_in_nI (by omega) (by omega), fun q10 d10 => ⟨vp_in_nI (by omega) (by omega), fun q11 d11 => ⟨vp_in_nI (by omega) (by omega), fun q12 d12 y13 d13 q14 d14 => ?_⟩⟩⟩⟩⟩⟩
    have n012 : (0 : Nat) ≠ 12 := by decide
    have f13 : y13 = nI (C + 1) := by
      rw [d13, d12, d11, d10, d9, d8, d7]; simp only [up2_A, upA_n n012]; rw [h5, nI_1]
    have gq : q14 = upA (upA q 12 (upd (upd (upd (upd (upd (upd (q 12) (6 * C) t) (6 * C + 1) a) (6 * C + 2) b) (6 * C + 3) e) (6 * C + 4) f) (6 * C + 5) p)) 0 (upd (q 0) 5 (nI (C + 1))) := by
      rw [d14, d12, d11, d10, d9, d8, d7, f13]; simp only [up2_A, upA_A, upA_s, upA_n n012]
    have g : ∀ i, i ≠ 0 → i ≠ 12 → q14 i = q i := fun i a0 a1 => by rw [gq, upA_n a0, upA_n a1]
    have g0 : q14 0 = upd (q 0) 5 (nI (C + 1)) := by rw [gq, upA_s]
    have g12 : q14 12 = upd (upd (upd (upd (upd (upd (q 12) (6 * C) t) (6 * C + 1) a) (6 * C + 2) b) (6 * C + 3) e) (6 * C + 4) f) (6 * C + 5) p := by rw [gq, upA_n (by decide), upA_s]
    have key : ∀ j, j ≠ 8 → j < 138 + 6 * C → conF v C t a b e f p j = v j := by
      intro j p1 p2
      unfold conF
      rw [upd_n p1, upd_n (by omega), upd_n (by omega), upd_n (by omega), upd_n (by omega), upd_n (by omega), upd_n (by omega)]
    have key8 : conF v C t a b e f p 8 = nI (C + 1) := by unfold conF; rw [upd_s]
    refine hk hz hC q14 ⟨hS.k (g 1 (by decide) (by decide)) (fun j hj => key j (by omega) (by omega)), ?_, hB.k (g 11 (by decide) (by decide)) (g 10 (by decide) (by decide)) (fun j a b => key j (by omega) (by omega)), hFF.k hF8 (g 2 (by decide) (by decide)) (g 3 (by decide) (by decide)) (g 4 (by decide) (by decide)) (g 5 (by decide) (by decide)) (fun j a b => key j (by omega) (by omega)), hTT.k (g 6 (by decide) (by decide)) (g 7 (by decide) (by decide)) (g 8 (by decide) (by decide)) (g 9 (by decide) (by decide)) (fun j a b => key j (by omega) (by omega)), fun c hc j hj => ?_⟩
    · obtain ⟨b1, b2, b3, b4, b5, b6, b7, b8⟩ := h0
      unfold r0
      rw [g0, key8, key 6 (by omega) (by omega), key 7 (by omega) (by omega), key 9 (by omega) (by omega), key 10 (by omega) (by omega), key 11 (by omega) (by omega), key 12 (by omega) (by omega), key 13 (by omega) (by omega), upd_n (by omega), upd_n (by omega), upd_s, upd_n (by omega), upd_n (by omega), upd_n (by omega), upd_n (by omega), upd_n (by omega)]
      exact ⟨b1, b2, rfl, b4, b5, b6, b7, b8⟩
    · rw [g12]
      by_cases ec : c = C
      · subst ec
        unfold conF
        rcases (show j = 0 ∨ j = 1 ∨ j = 2 ∨ j = 3 ∨ j = 4 ∨ j = 5 by omega) with rfl | rfl | rfl | rfl | rfl | rfl
        · simp only [Nat.add_zero]
          rw [upd_n (by omega), upd_n (by omega), upd_n (by omega), upd_n (by omega), upd_n (by omega), upd_s, upd_n (by omega), upd_n (by omega), upd_n (by omega), upd_n (by omega), upd_n (by omega), upd_n (by omega), upd_s]
        · rw [upd_n (by omega), upd_n (by omega), upd_n (by omega), upd_n (by omega), upd_s, upd_n (by omega), upd_n (by omega), upd_n (by omega), upd_n (by omega), upd_n (by omega), upd_s]
        · rw [upd_n (by omega), upd_n (by omega), upd_n (by omega), upd_s, upd_n (by omega), upd_n (by omega), upd_n (by omega), upd_n (by omega), upd_s]
        · rw [upd_n (by omega), upd_n (by omega), upd_s, upd_n (by omega), upd_n (by omega), upd_n (by omega), upd_s]
        · rw [upd_n (by omega), upd_s, upd_n (by omega), upd_n (by omega), upd_s]
        · rw [upd_s, upd_n (by omega), upd_s]
      · rw [key _ (by omega) (by omega), upd_n (by omega), upd_n (by omega), upd_n (by omega), upd_n (by omega), upd_n (by omega), upd_n (by omega)]
        exact hCC c (by omega) j hj
  · have hC : 12 ≤ C := Nat.le_of_not_lt (fun z => cI (isIn_nI (a := 0) (b := 11) (by omega) (by omega) (by omega) (by omega)))
    have hz : refCon v t a b e f p = -4 := by unfold refCon; rw [if_neg (fun z => z ok), if_pos (by rw [h8, nI_12 hC12]; omega)]
    rw [hz] at hr; exact hr (by decide)
theorem c_dropNone {k : Int32 → qS → Prop} {q : qS} {C : Nat} {x : Int32} (h5 : q 0 5 = nI C) (hC : C ≤ 12) (hx : ¬ ∃ j : Nat, j < C ∧ x = nI j) (h : k (-1) q) : wX1_dropOne k q x := by
  unfold wX1_dropOne
  exact c_hasC h5 hC (fun z => absurd z hx) (fun _ => ⟨fun z => absurd rfl z, fun _ => h⟩)
/-- a truck of the class against the numbers -/
theorem rT.six {q : qS} {v : vS} {T F : Nat} (hT : rT q v) (hv : hrOk v T F) {t : Nat} (ht : t < 20) : ∃ a, a ≤ F ∧ v (58 + 4 * t) = nI a ∧ (a = 0 → q 6 t = -6) ∧ (a ≠ 0 → q 6 t = nI (a - 1)) := by
  obtain ⟨t1, t2, t3⟩ := hT t ht
  obtain ⟨a, a1, a2⟩ := hv.2.2.2.2.1 t ht
  have hF8 := hv.2.2.2.1
  refine ⟨a, a1, a2, fun z => t2 (by rw [a2, z]; rfl), fun z => ?_⟩
  rw [(t3 (fun y => z (by rw [a2, show (0 : Int32) = nI 0 from rfl, nI_eq (by omega) (by omega)] at y; exact y))).1, a2]
  obtain ⟨b, rfl⟩ : ∃ b, a = b + 1 := ⟨a - 1, by omega⟩
  rw [nI_pred]; rfl
theorem c_isAway {k : Int32 → qS → Prop} {q : qS} {v : vS} {T F t : Nat} (hT : rT q v) (hv : hrOk v T F) (ht : t < 20) (h0 : v (58 + 4 * t) = 0 → k 0 q) (h1 : ¬ v (58 + 4 * t) = 0 → k 1 q) : wX8_isAway k q (nI t) := by
  obtain ⟨a, a1, a2, a3, a4⟩ := hT.six hv ht
  have hF8 := hv.2.2.2.1
  have iff : v (58 + 4 * t) = 0 ↔ a = 0 := by rw [a2, show (0 : Int32) = nI 0 from rfl, nI_eq (by omega) (by omega)]
  unfold wX8_isAway wX8_isAway_b25 wX8_isAway_b26
  refine c_in (fun c => ⟨fun z => absurd z (by decide), fun _ => ⟨vp_in_nI (by omega) (by omega), ?_⟩⟩) (fun c => absurd (isIn_nI (a := 0) (b := 19) (by omega) (by omega) (by omega) (by omega)) c)
  rw [nI_clamp (by omega)]
  refine ⟨fun c => ⟨rfl, h0 (iff.mpr ?_)⟩, fun c => ⟨rfl, h1 (fun z => c (a3 (iff.mp z)))⟩⟩
  by_cases z : a = 0
  · exact z
  · rw [a4 z] at c; exact absurd c (nI_ne6 (by omega))
theorem c_away_l {k : Int32 → qS → Prop} {q : qS} {x : Int32} {f : Nat → Int32} (hf : ∀ i, i < 20 → f (i + 1) = f i + (if q 6 i = x then 1 else 0)) : ∀ (d i n : Nat), i + d = 20 → d < n → k (f 20) q → wX8_awayFrom_b4 k n q x (f i) (nI i) := by
  intro d
  induction d with
  | zero =>
    intro i n hi hn h
    obtain ⟨n, rfl⟩ : ∃ m, n = m + 1 := ⟨n - 1, by omega⟩
    obtain rfl : i = 20 := by omega
    unfold wX8_awayFrom_b4
    exact pk_le 20 20 (fun _ => h) (fun c => by omega) rfl rfl (by omega) (by omega)
  | succ d ih =>
    intro i n hi hn h
    obtain ⟨n, rfl⟩ : ∃ m, n = m + 1 := ⟨n - 1, by omega⟩
    unfold wX8_awayFrom_b4 wX8_awayFrom_b23
    refine pk_le 20 i (fun c => by omega) (fun _ => ?_) rfl rfl (by omega) (by omega)
    have L := ih (i + 1) n (by omega) (by omega) h
    rw [hf i (by omega)] at L
    rw [nI_clamp (by omega)]
    refine ⟨vp_in_nI (by omega) (by omega), fun c y e => ?_, fun c y2 e2 y e => ?_⟩
    · rw [if_neg c, Int32.add_zero] at L
      rw [e, nI_1]; exact L
    · rw [if_pos c] at L
      rw [e, e2, nI_1]; exact L
theorem c_awayFrom {k : Int32 → qS → Prop} {q : qS} {v : vS} {T F f : Nat} (hT : rT q v) (hv : hrOk v T F) (ht : tkOk v T) (hf : f < F) (h : k (fromF v (nI f) T) q) : wX8_awayFrom k q (nI f) := by
  have hF8 := hv.2.2.2.1
  have step : ∀ i, i < 20 → fromF v (nI f) (i + 1) = fromF v (nI f) i + (if q 6 i = nI f then 1 else 0) := by
    intro i hi
    obtain ⟨a, a1, a2, a3, a4⟩ := hT.six hv hi
    have iff : v (58 + 4 * i) = nI f + 1 ↔ q 6 i = nI f := by
      rw [a2, nI_1, nI_eq (by omega) (by omega)]
      by_cases z : a = 0
      · rw [a3 z]
        exact ⟨fun y => by omega, fun y => absurd y.symm (nI_ne6 (by omega))⟩
      · rw [a4 z, nI_eq (by omega) (by omega)]; omega
    rw [fromF]
    by_cases c : q 6 i = nI f
    · rw [if_pos c, if_pos (iff.mpr c)]
    · rw [if_neg c, if_neg (fun z => c (iff.mp z))]
  have e20 : ∀ n, T ≤ n → n ≤ 20 → fromF v (nI f) n = fromF v (nI f) T := by
    intro n
    induction n with
    | zero => intro h1 _; rw [show T = 0 from by omega]
    | succ n ih =>
      intro h1 h2
      by_cases e : T = n + 1
      · rw [e]
      · rw [fromF, if_neg, Int32.add_zero]
        · exact ih (by omega) (by omega)
        · rw [(ht n (by omega)).1 (by omega), nI_1, show (0 : Int32) = nI 0 from rfl, nI_eq (by omega) (by omega)]; omega
  rw [← e20 20 hv.2.1 (Nat.le_refl 20)] at h
  exact ⟨21, c_away_l step 20 0 21 (by omega) (by omega) h⟩
/-- how many of the first n trucks are not on their way -/
def idleF (v : vS) : Nat → Int32
  | 0 => 0
  | n + 1 => idleF v n + (if v (58 + 4 * n) ≤ 0 then 1 else 0)
theorem way_idle (v : vS) : ∀ n, wayF v n + idleF v n = nI n
  | 0 => by rfl
  | n + 1 => by
    rw [wayF, idleF]
    have e := way_idle v n
    by_cases c : v (58 + 4 * n) ≤ 0
    · rw [if_pos c, if_pos c, Int32.add_zero, ← Int32.add_assoc, e, nI_1]
    · rw [if_neg c, if_neg c, Int32.add_zero, Int32.add_assoc, Int32.add_comm 1, ← Int32.add_assoc, e, nI_1]
theorem c_awayInAll {k : Int32 → qS → Prop} {q : qS} {v : vS} {T F : Nat} (hT : rT q v) (hv : hrOk v T F) (ht : tkOk v T) (h : k (wayF v T) q) : wX8_awayInAll k q := by
  have hF8 := hv.2.2.2.1
  have step : ∀ i, i < 20 → idleF v (i + 1) = idleF v i + (if q 6 i = -6 then 1 else 0) := by
    intro i hi
    obtain ⟨a, a1, a2, a3, a4⟩ := hT.six hv hi
    have iff : v (58 + 4 * i) ≤ 0 ↔ q 6 i = -6 := by
      rw [a2, nI_le0 (by omega)]
      by_cases z : a = 0
      · exact ⟨fun _ => a3 z, fun _ => z⟩
      · rw [a4 z]; exact ⟨fun y => absurd y z, fun y => absurd y (nI_ne6 (by omega))⟩
    rw [idleF]
    by_cases c : q 6 i = -6
    · rw [if_pos c, if_pos (iff.mpr c)]
    · rw [if_neg c, if_neg (fun z => c (iff.mp z))]
  have e20 : ∀ n, T ≤ n → n ≤ 20 → wayF v n = wayF v T := by
    intro n
    induction n with
    | zero => intro h1 _; rw [show T = 0 from by omega]
    | succ n ih =>
      intro h1 h2
      by_cases e : T = n + 1
      · rw [e]
      · rw [wayF, if_pos, Int32.add_zero]
        · exact ih (by omega) (by omega)
        · rw [(ht n (by omega)).1 (by omega)]; decide
  unfold wX8_awayInAll wX8_awayFrom
  refine ⟨21, c_away_l (f := idleF v) step 20 0 21 (by omega) (by omega) ?_⟩
  show k ((20 : Int32) - idleF v 20) q
  have e := way_idle v 20
  rw [show (20 : Int32) - idleF v 20 = wayF v 20 from by
    rw [show (20 : Int32) = nI 20 from rfl, ← e, Int32.add_sub_cancel], e20 20 hv.2.1 (Nat.le_refl 20)]
  exact h
theorem c_unc_l {k : Int32 → qS → Prop} {q : qS} {v : vS} (hB : rB q v) : ∀ (d i n : Nat), i + d = 9 → d < n → k (frontF v 9) q → wX2_uncrushedInAll_b4 k n q (frontF v i) (nI (i + 1)) := by
  intro d
  induction d with
  | zero =>
    intro i n hi hn h
    obtain ⟨n, rfl⟩ : ∃ m, n = m + 1 := ⟨n - 1, by omega⟩
    obtain rfl : i = 9 := by omega
    unfold wX2_uncrushedInAll_b4
    exact pk_lt 9 10 (fun _ => h) (fun c => by omega) rfl rfl (by omega) (by omega)
  | succ d ih =>
    intro i n hi hn h
    obtain ⟨n, rfl⟩ : ∃ m, n = m + 1 := ⟨n - 1, by omega⟩
    unfold wX2_uncrushedInAll_b4
    refine pk_lt 9 (i + 1) (fun c => by omega) (fun _ => ?_) rfl rfl (by omega) (by omega)
    have L := ih (i + 1) n (by omega) (by omega) h
    rw [frontF] at L
    rw [nI_clamp (by omega)]
    refine ⟨vp_in_nI (by omega) (by omega), fun y e y2 e2 => ?_⟩
    rw [e2, e, nI_1, hB.2 (i + 1) (by omega) (by omega)]; exact L
theorem c_uncrushed {k : Int32 → qS → Prop} {q : qS} {v : vS} (hB : rB q v) (h : k (frontF v 9) q) : wX2_uncrushedInAll k q :=
  ⟨10, c_unc_l hB 9 0 10 (by omega) (by omega) h⟩
