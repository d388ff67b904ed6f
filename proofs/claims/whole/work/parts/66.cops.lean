/-! ===== the class's changes of a quarry ===== -/
/-- a number of the settings changed -/
theorem RQ.set {q : qS} {v : vS} {F C i : Nat} {x : Int32} (h : RQ q v F C) (hF : F ≤ 8) (hC : C ≤ 12) (hi : i < 6) : RQ (up2 q 1 i x) (upd v i x) F C := by
  obtain ⟨hS, h0, hB, hFF, hTT, hCC⟩ := h
  have g : ∀ j, j ≠ 1 → up2 q 1 i x j = q j := fun j hj => by rw [up2_A, upA_n hj]
  refine ⟨fun j hj => ?_, ?_, hB.k (g 11 (by decide)) (g 10 (by decide)) (fun j a b => upd_n (by omega)), hFF.k hF (g 2 (by decide)) (g 3 (by decide)) (g 4 (by decide)) (g 5 (by decide)) (fun j a b => upd_n (by omega)), hTT.k (g 6 (by decide)) (g 7 (by decide)) (g 8 (by decide)) (g 9 (by decide)) (fun j a b => upd_n (by omega)), hCC.k hC (g 12 (by decide)) (fun j a b => upd_n (by omega))⟩
  · rw [up2_A, upA_s]
    by_cases e : j = i
    · subst e; rw [upd_s, upd_s]
    · rw [upd_n e, upd_n e]; exact hS j hj
  · unfold r0
    rw [g 0 (by decide), upd_n (by omega), upd_n (by omega), upd_n (by omega), upd_n (by omega), upd_n (by omega), upd_n (by omega), upd_n (by omega), upd_n (by omega)]; exact h0
theorem c_least_l {k : Int32 → qS → Prop} {q : qS} {v : vS} {T F : Nat} (hT : rT q v) (hv : hrOk v T F) : ∀ (d i n : Nat), i + d = 20 → d < n → k (needF v 20) q → wX8_leastSetting_b4 k n q (needF v i) (nI i) := by
  intro d
  induction d with
  | zero =>
    intro i n hi hn h
    obtain ⟨n, rfl⟩ : ∃ m, n = m + 1 := ⟨n - 1, by omega⟩
    obtain rfl : i = 20 := by omega
    unfold wX8_leastSetting_b4
    exact pk_le 20 20 (fun _ => h) (fun c => by omega) rfl rfl (by omega) (by omega)
  | succ d ih =>
    intro i n hi hn h
    obtain ⟨n, rfl⟩ : ∃ m, n = m + 1 := ⟨n - 1, by omega⟩
    unfold wX8_leastSetting_b4 wX8_leastSetting_b25
    refine pk_le 20 i (fun c => by omega) (fun _ => ?_) rfl rfl (by omega) (by omega)
    have L := ih (i + 1) n (by omega) (by omega) h
    rw [needF] at L
    obtain ⟨t1, t2, t3⟩ := hT i (by omega)
    obtain ⟨a, a1, a2⟩ := hv.2.2.2.2.1 i (by omega)
    have hF8 := hv.2.2.2.1
    have iff : v (58 + 4 * i) ≤ 0 ↔ v (58 + 4 * i) = 0 := by
      rw [a2, nI_le0 (by omega), show (0 : Int32) = nI 0 from rfl, nI_eq (by omega) (by omega)]
    rw [nI_clamp (by omega)]
    refine ⟨vp_in_nI (by omega) (by omega), fun c y e => ?_, fun c y2 e2 y e => ?_⟩
    · have z : v (58 + 4 * i) = 0 := by
        by_cases z : v (58 + 4 * i) = 0
        · exact z
        · rw [(t3 z).1, a2] at c
          have ha0 : a ≠ 0 := fun y => z (by rw [a2, y]; rfl)
          obtain ⟨f, rfl⟩ : ∃ f, a = f + 1 := ⟨a - 1, by omega⟩
          rw [nI_pred] at c
          exact absurd c (nI_ne6 (by omega))
      rw [if_pos (iff.mpr z)] at L
      rw [e, nI_1]; exact L
    · rw [if_neg (fun z => c (t2 (iff.mp z)))] at L
      rw [e, e2, nI_1]; exact L
theorem need_20 {v : vS} {T F : Nat} (hv : hrOk v T F) (ht : tkOk v T) : needF v 20 = needF v T := by
  have key : ∀ n, T ≤ n → n ≤ 20 → needF v n = needF v T := by
    intro n
    induction n with
    | zero => intro h _; rw [show T = 0 from by omega]
    | succ n ih =>
      intro h1 h2
      by_cases e : T = n + 1
      · rw [e]
      · rw [needF, if_pos (by rw [(ht n (by omega)).1 (by omega)]; decide)]
        exact ih (by omega) (by omega)
  exact key 20 hv.2.1 (Nat.le_refl 20)
theorem c_leastSetting {k : Int32 → qS → Prop} {q : qS} {v : vS} {T F C N : Nat} (hq : RQ q v F C) (hv : Inv v T F C N) (h : k (needF v (nn (v 0))) q) : wX8_leastSetting k q := by
  have cT : nn (v 0) = T := by rw [hv.1.1]; exact nI_clamp (by have := hv.1.2.1; omega)
  rw [cT, ← need_20 hv.1 hv.2.2.2.2.2] at h
  exact ⟨21, c_least_l hq.2.2.2.2.1 hv.1 20 0 21 (by omega) (by omega) h⟩
/-- the tables of the least and the most -/
theorem tab_ok {s x : Int32} {i : Nat} (hi : i ≤ 5) (e : s = nI i) : isIn x (([0, 1, 1, 1, 1, 0] : List Int32).getD (Int32.toNatClampNeg s) 0) (([20, 40, 24, 9, 200, 99] : List Int32).getD (Int32.toNatClampNeg s) 0) ↔ okSet s x := by
  subst e
  rw [nI_clamp (by omega)]
  have nx : ∀ a b : Nat, a ≤ 5 → b ≤ 5 → a ≠ b → ¬ nI a = nI b := fun a b ha hb hn z => hn ((nI_eq (by omega) (by omega)).mp z)
  rcases (show i = 0 ∨ i = 1 ∨ i = 2 ∨ i = 3 ∨ i = 4 ∨ i = 5 by omega) with rfl | rfl | rfl | rfl | rfl | rfl
  · exact ⟨fun h => Or.inl ⟨rfl, h⟩, fun h => by rcases h with ⟨_, h⟩ | ⟨e, _⟩ | ⟨e, _⟩ | ⟨e, _⟩ | ⟨e, _⟩ | ⟨e, _⟩ <;> first | exact h | exact absurd e (by decide)⟩
  · exact ⟨fun h => Or.inr (Or.inl ⟨rfl, h⟩), fun h => by rcases h with ⟨e, _⟩ | ⟨_, h⟩ | ⟨e, _⟩ | ⟨e, _⟩ | ⟨e, _⟩ | ⟨e, _⟩ <;> first | exact h | exact absurd e (by decide)⟩
  · exact ⟨fun h => Or.inr (Or.inr (Or.inl ⟨rfl, h⟩)), fun h => by rcases h with ⟨e, _⟩ | ⟨e, _⟩ | ⟨_, h⟩ | ⟨e, _⟩ | ⟨e, _⟩ | ⟨e, _⟩ <;> first | exact h | exact absurd e (by decide)⟩
  · exact ⟨fun h => Or.inr (Or.inr (Or.inr (Or.inl ⟨rfl, h⟩))), fun h => by rcases h with ⟨e, _⟩ | ⟨e, _⟩ | ⟨e, _⟩ | ⟨_, h⟩ | ⟨e, _⟩ | ⟨e, _⟩ <;> first | exact h | exact absurd e (by decide)⟩
  · exact ⟨fun h => Or.inr (Or.inr (Or.inr (Or.inr (Or.inl ⟨rfl, h⟩)))), fun h => by rcases h with ⟨e, _⟩ | ⟨e, _⟩ | ⟨e, _⟩ | ⟨e, _⟩ | ⟨_, h⟩ | ⟨e, _⟩ <;> first | exact h | exact absurd e (by decide)⟩
  · exact ⟨fun h => Or.inr (Or.inr (Or.inr (Or.inr (Or.inr ⟨rfl, h⟩)))), fun h => by rcases h with ⟨e, _⟩ | ⟨e, _⟩ | ⟨e, _⟩ | ⟨e, _⟩ | ⟨e, _⟩ | ⟨_, h⟩ <;> first | exact h | exact absurd e (by decide)⟩
theorem c_changeSetting {k : Int32 → qS → Prop} {q : qS} {v : vS} {T F C N : Nat} {s x : Int32} (hq : RQ q v F C) (hv : Inv v T F C N) (hr : refSet v s x ≠ 0 → k (refSet v s x) q) (hk : refSet v s x = 0 → ∀ i : Nat, i ≤ 5 → s = nI i → ∀ r, RQ r (upd v i x) F C → k (v i) r) : wX6_changeSetting k q s x := by
  have hF8 := hv.1.2.2.2.1
  have hC12 := hv.2.2.2.1.2.1
  unfold wX6_changeSetting
  refine c_in (fun c => ⟨fun _ => ?_, fun z => absurd z (by decide)⟩) (fun c => ⟨fun z => absurd rfl z, fun _ => ?_⟩)
  · obtain ⟨i, hi, e⟩ := isIn_small (N := 5) (by omega) c
    have v6 : vp_in s 6 := by rw [e]; exact vp_in_nI (by omega) (by omega)
    have tb := tab_ok (x := x) hi e
    have done : refSet v s x = 0 → wX6_changeSetting_b50 k q s x := by
      intro hz
      unfold wX6_changeSetting_b50
      refine ⟨v6, fun y1 e1 => ⟨v6, fun q2 e2 => ?_⟩⟩
      have K := hk hz i hi e q2
      rw [e, nI_clamp (by omega)] at e1 e2
      rw [e1, hq.1 i (by omega)]
      exact K (by rw [e2]; exact hq.set hF8 hC12 (by omega))
    refine ⟨v6, v6, c_in (fun c2 => ⟨fun _ => ⟨fun c3 => ?_, fun c3 => c_leastSetting hq hv ⟨fun c4 => ?_, fun c4 => ?_⟩⟩, fun z => absurd z (by decide)⟩) (fun c2 => ⟨fun z => absurd rfl z, fun _ => ?_⟩)⟩
    · have ok := tb.mp c2
      exact done (by unfold refSet; rw [if_neg (fun z => z ok), if_neg (fun z => c3 z.1)])
    · have ok := tb.mp c2
      exact done (by unfold refSet; rw [if_neg (fun z => z ok), if_neg (fun z => by have y := z.2; rw [lt_I] at y; rw [le_I] at c4; omega)])
    · have ok := tb.mp c2
      have hz : refSet v s x = -5 := by unfold refSet; rw [if_neg (fun z => z ok), if_pos ⟨c3, by rw [lt_I]; rw [le_I] at c4; omega⟩]
      rw [hz] at hr; exact hr (by decide)
    · have hz : refSet v s x = -2 := by unfold refSet; rw [if_pos (fun z => c2 (tb.mpr z))]
      rw [hz] at hr; exact hr (by decide)
  · have hz : refSet v s x = -2 := by
      unfold refSet
      rw [if_pos (fun z => by
        obtain ⟨i, hi, e⟩ := okSet_ix z
        rw [e] at c
        exact c (isIn_nI (a := 0) (b := 5) (by omega) (by omega) (by omega) (by omega)))]
    rw [hz] at hr; exact hr (by decide)
theorem c_mend {k : Int32 → qS → Prop} {q : qS} {v : vS} {F C : Nat} (hq : RQ q v F C) (hF : F ≤ 8) (hC : C ≤ 12) (hk : ∀ r, RQ r (upd v 10 0) F C → k (v 10) r) : wX2_becomeAsNew k q := by
  unfold wX2_becomeAsNew
  intro y1 e1 q2 e2
  obtain ⟨hS, h0, hB, hFF, hTT, hCC⟩ := hq
  have g : ∀ j, j ≠ 0 → q2 j = q j := fun j hj => by rw [e2, up2_A, upA_n hj]
  have g0 : q2 0 = upd (q 0) 6 0 := by rw [e2, up2_A, upA_s]
  rw [e1, h0.2.2.2.2.1]
  refine hk q2 ⟨hS.k (g 1 (by decide)) (fun j hj => upd_n (by omega)), ?_, hB.k (g 11 (by decide)) (g 10 (by decide)) (fun j a b => upd_n (by omega)), hFF.k hF (g 2 (by decide)) (g 3 (by decide)) (g 4 (by decide)) (g 5 (by decide)) (fun j a b => upd_n (by omega)), hTT.k (g 6 (by decide)) (g 7 (by decide)) (g 8 (by decide)) (g 9 (by decide)) (fun j a b => upd_n (by omega)), hCC.k hC (g 12 (by decide)) (fun j a b => upd_n (by omega))⟩
  obtain ⟨c1, c2, c3, c4, c5, c6, c7, c8⟩ := h0
  unfold r0
  rw [g0, upd_s, upd_s, upd_n (by omega), upd_n (by omega), upd_n (by omega), upd_n (by omega), upd_n (by omega), upd_n (by omega), upd_n (by omega), upd_n (by omega), upd_n (by omega), upd_n (by omega), upd_n (by omega), upd_n (by omega), upd_n (by omega), upd_n (by omega)]
  exact ⟨c1, c2, c3, c4, rfl, c6, c7, c8⟩
theorem nI_8 {F : Nat} (hF : F ≤ 8) : nI F = 8 ↔ ¬ F < 8 := by
  rw [show (8 : Int32) = nI 8 from rfl, nI_eq (by omega) (by omega)]; omega
theorem in_top {j b : Nat} (hj : j ≤ b + 1) (hb : b + 1 < 2 ^ 31) (h : isIn (nI j) 0 (nI b)) : j < b + 1 := by
  have h' : ¬ (nI j < 0 ∨ nI b < nI j) := h
  rcases Nat.lt_or_ge j (b + 1) with z | z
  · exact z
  · exact absurd (Or.inr ((nI_ltI (a := b) (b := j) (by omega) (by omega)).mpr (by omega))) h'
theorem c_addFace {k : Int32 → qS → Prop} {q : qS} {v : vS} {T F C N : Nat} {t h w : Int32} (hq : RQ q v F C) (hv : Inv v T F C N) (hr : refFace v t h w ≠ 0 → k (refFace v t h w) q) (hk : refFace v t h w = 0 → F < 8 → ∀ r, RQ r (faceF v F t h w) (F + 1) C → k (nI F) r) : wX3_add k q t h w := by
  have hF8 := hv.1.2.2.2.1
  have hC12 := hv.2.2.2.1.2.1
  have h7 := hv.1.2.2.1
  obtain ⟨hS, h0, hB, hFF, hTT, hCC⟩ := hq
  have h4 : q 0 4 = nI F := by rw [h0.2.1]; exact h7
  have bad : ¬ (isIn t 1 9999 ∧ isIn h 1 9 ∧ isIn w 1 12) → k (-2) q := fun z => by
    have hz : refFace v t h w = -2 := by unfold refFace; rw [if_pos z]
    rw [hz] at hr; exact hr (by decide)
  unfold wX3_add wX3_add_b31
  refine c_in (fun c1 => ⟨fun z => absurd z (by decide), fun _ => c_in (fun c2 => ⟨fun z => absurd z (by decide), fun _ => c_in (fun c3 => ⟨fun _ => ?_, fun z => absurd z (by decide)⟩) (fun c3 => ⟨fun z => absurd rfl z, fun _ => bad (fun z => c3 z.2.2)⟩)⟩) (fun c2 => ⟨fun _ => bad (fun z => c2 z.2.1), fun z => absurd rfl z⟩)⟩) (fun c1 => ⟨fun _ => bad (fun z => c1 z.1), fun z => absurd rfl z⟩)
  intro y4 e4
  rw [h4] at e4
  rw [e4]
  refine c_in (fun cI => ⟨fun _ => ?_, fun z => absurd z (by decide)⟩) (fun cI => ⟨fun z => absurd rfl z, fun _ => ?_⟩)
  · have hF : F < 8 := in_top hF8 (by omega) cI
    have cF : Int32.toNatClampNeg (nI F) = F := nI_clamp (by omega)
    have vF : vp_in (nI F) 8 := vp_in_nI hF (by omega)
    rw [cF]
    refine ⟨vF, fun q5 d5 => ⟨vF, fun q6 d6 => ⟨vF, fun q7 d7 => ⟨vF, fun q8 d8 y9 d9 q10 d10 => ?_⟩⟩⟩⟩
    have hz : refFace v t h w = 0 := by unfold refFace; rw [if_neg (fun z => z ⟨c1, c2, c3⟩), if_neg (fun z => by rw [h7, nI_8 hF8] at z; exact z hF)]
    refine hk hz hF q10 ?_
    have n02 : (0 : Nat) ≠ 2 := by decide
    have n03 : (0 : Nat) ≠ 3 := by decide
    have n04 : (0 : Nat) ≠ 4 := by decide
    have n05 : (0 : Nat) ≠ 5 := by decide
    have f9 : y9 = nI (F + 1) := by
      rw [d9, d8, d7, d6, d5]; simp only [up2_A, upA_n n02, upA_n n03, upA_n n04, upA_n n05]; rw [h4, nI_1]
    have n32 : (3 : Nat) ≠ 2 := by decide
    have n42 : (4 : Nat) ≠ 2 := by decide
    have n43 : (4 : Nat) ≠ 3 := by decide
    have n52 : (5 : Nat) ≠ 2 := by decide
    have n53 : (5 : Nat) ≠ 3 := by decide
    have n54 : (5 : Nat) ≠ 4 := by decide
    have gq : q10 = upA (upA (upA (upA (upA q 2 (upd (q 2) F t)) 3 (upd (q 3) F 0)) 4 (upd (q 4) F h)) 5 (upd (q 5) F w)) 0 (upd (q 0) 4 (nI (F + 1))) := by
      rw [d10, d8, d7, d6, d5, f9]; simp only [up2_A, upA_n n02, upA_n n03, upA_n n04, upA_n n05, upA_n n32, upA_n n42, upA_n n43, upA_n n52, upA_n n53, upA_n n54]
    have g : ∀ i, i ≠ 0 → i ≠ 2 → i ≠ 3 → i ≠ 4 → i ≠ 5 → q10 i = q i := fun i a0 a2 a3 a4 a5 => by rw [gq, upA_n a0, upA_n a5, upA_n a4, upA_n a3, upA_n a2]
    have g0 : q10 0 = upd (q 0) 4 (nI (F + 1)) := by rw [gq, upA_s]
    have g2 : q10 2 = upd (q 2) F t := by rw [gq, upA_n (by decide), upA_n (by decide), upA_n (by decide), upA_n (by decide), upA_s]
    have g3 : q10 3 = upd (q 3) F 0 := by rw [gq, upA_n (by decide), upA_n (by decide), upA_n (by decide), upA_s]
    have g4 : q10 4 = upd (q 4) F h := by rw [gq, upA_n (by decide), upA_n (by decide), upA_s]
    have g5 : q10 5 = upd (q 5) F w := by rw [gq, upA_n (by decide), upA_s]
    have key : ∀ j, j ≠ 7 → j ≠ 26 + 4 * F → j ≠ 27 + 4 * F → j ≠ 28 + 4 * F → j ≠ 29 + 4 * F → faceF v F t h w j = v j := by
      intro j p1 p2 p3 p4 p5
      unfold faceF
      rw [upd_n p1, upd_n p5, upd_n p4, upd_n p3, upd_n p2]
    refine ⟨hS.k (g 1 (by decide) (by decide) (by decide) (by decide) (by decide)) (fun j hj => key j (by omega) (by omega) (by omega) (by omega) (by omega)), ?_, hB.k (g 11 (by decide) (by decide) (by decide) (by decide) (by decide)) (g 10 (by decide) (by decide) (by decide) (by decide) (by decide)) (fun j a b => key j (by omega) (by omega) (by omega) (by omega) (by omega)), fun f hf => ?_, hTT.k (g 6 (by decide) (by decide) (by decide) (by decide) (by decide)) (g 7 (by decide) (by decide) (by decide) (by decide) (by decide)) (g 8 (by decide) (by decide) (by decide) (by decide) (by decide)) (g 9 (by decide) (by decide) (by decide) (by decide) (by decide)) (fun j a b => key j (by omega) (by omega) (by omega) (by omega) (by omega)), hCC.k hC12 (g 12 (by decide) (by decide) (by decide) (by decide) (by decide)) (fun j a b => key j (by omega) (by omega) (by omega) (by omega) (by omega))⟩
    · obtain ⟨b1, b2, b3, b4, b5, b6, b7, b8⟩ := h0
      have k7 : faceF v F t h w 7 = nI (F + 1) := by unfold faceF; rw [upd_s]
      unfold r0
      rw [g0, key 6 (by omega) (by omega) (by omega) (by omega) (by omega), k7, key 8 (by omega) (by omega) (by omega) (by omega) (by omega), key 9 (by omega) (by omega) (by omega) (by omega) (by omega), key 10 (by omega) (by omega) (by omega) (by omega) (by omega), key 11 (by omega) (by omega) (by omega) (by omega) (by omega), key 12 (by omega) (by omega) (by omega) (by omega) (by omega), key 13 (by omega) (by omega) (by omega) (by omega) (by omega), upd_n (by omega), upd_s, upd_n (by omega), upd_n (by omega), upd_n (by omega), upd_n (by omega), upd_n (by omega), upd_n (by omega)]
      exact ⟨b1, rfl, b3, b4, b5, b6, b7, b8⟩
    · rw [g2, g3, g4, g5]
      by_cases e : f = F
      · subst e
        have k26 : faceF v f t h w (26 + 4 * f) = t := by unfold faceF; rw [upd_n (by omega), upd_n (by omega), upd_n (by omega), upd_n (by omega), upd_s]
        have k27 : faceF v f t h w (27 + 4 * f) = h := by unfold faceF; rw [upd_n (by omega), upd_n (by omega), upd_n (by omega), upd_s]
        have k28 : faceF v f t h w (28 + 4 * f) = w := by unfold faceF; rw [upd_n (by omega), upd_n (by omega), upd_s]
        have k29 : faceF v f t h w (29 + 4 * f) = 0 := by unfold faceF; rw [upd_n (by omega), upd_s]
        rw [upd_s, upd_s, upd_s, upd_s, k26, k27, k28, k29]
        exact ⟨rfl, rfl, rfl, rfl⟩
      · rw [upd_n e, upd_n e, upd_n e, upd_n e, key _ (by omega) (by omega) (by omega) (by omega) (by omega), key _ (by omega) (by omega) (by omega) (by omega) (by omega), key _ (by omega) (by omega) (by omega) (by omega) (by omega), key _ (by omega) (by omega) (by omega) (by omega) (by omega)]
        exact hFF f (by omega)
  · have hF : 8 ≤ F := Nat.le_of_not_lt (fun z => cI (isIn_nI (a := 0) (b := 7) (by omega) (by omega) (by omega) (by omega)))
    have hz : refFace v t h w = -4 := by unfold refFace; rw [if_neg (fun z => z ⟨c1, c2, c3⟩), if_pos (by rw [h7, nI_8 hF8]; omega)]
    rw [hz] at hr; exact hr (by decide)
