/-! ===== the class: what if; undo, slots, wipe ===== -/
theorem sub_four (a b c d : Int32) : a - b - (c - d) = a - c - (b - d) := by
  simp only [Int32.sub_eq_add_neg, Int32.neg_add, Int32.neg_neg]
  ac_rfl
section CF
variable {q o d tq : qS} {zs : Nat → qS} {v : vS} {u : Nat} {L : Nat → vS} {sl : Nat → Int32} {S : Nat → vS} {n : Nat} {pd : Nat → Int32} {k : Int32 → qS → qS → qS → qS → (Nat → qS) → Prop}
theorem c_Xthen {x w : Int32} (h : RG q v) (hr : ¬ (isIn x 1 30 ∧ isIn w 0 1) → k (-2) q o d tq zs)
    (hk : isIn w 0 1 → ∀ D : Nat, 1 ≤ D → D ≤ 30 → x = nI D → ∀ tq2, k (thenR v D w) q o d tq2 zs) : wX9_then k q o d tq zs x w := by
  obtain ⟨T, F, C, hrs, H, hQ, hI, h6, hh, h2, H1, H24, hz⟩ := h
  unfold wX9_then wX9_then_b19
  refine c_in (fun c => ⟨fun z => absurd z (by decide), fun _ => c_in (fun c2 => ⟨fun _ => ?_, fun z => absurd z (by decide)⟩) (fun c2 => ⟨fun z => absurd rfl z, fun _ => hr (fun z => c2 z.2)⟩)⟩) (fun c => ⟨fun _ => hr (fun z => c z.1), fun z => absurd rfl z⟩)
  obtain ⟨D, D1, D30, eD⟩ := isIn_30 c
  have hHD : H * D ≤ 24 * 30 := Nat.mul_le_mul H24 D30
  have e29 : 29 * H * D = 29 * (H * D) := Nat.mul_assoc _ _ _
  have K := hk c2 D D1 D30 eD
  unfold thenR at K
  refine c_copy hQ hI.1.2.2.2.1 hI.2.2.2.1.2.1 (fun r hR => ?_)
  rw [eD]
  refine c_runDays hR hI h2 H24 D30 (by omega) (fun r2 _ e2 e3 => ?_)
  obtain ⟨C2, N2, hR2, -⟩ := e3 rfl
  have e4 := hR2.2.1.2.2.2.2.2.2.2
  have f2 := hQ.2.1.2.2.2.2.2.2.1
  have f3 := hQ.2.1.2.2.2.2.2.2.2
  refine ⟨fun c0 => ?_, fun c0 => ?_⟩
  · have K := K r2
    rw [if_neg c0] at K
    rw [e2, e4, f2, f3, sub_four]; exact K
  · have K := K r2
    rw [if_pos c0] at K; exact K
theorem best_l {x : Int32} {w : Int32} {T F C hrs H D : Nat} (hQ : RQ q v F C) (hI : Inv v T F C (29 * hrs)) (hh : hrs ≤ 9999) (h2 : v 2 = nI H) (H24 : H ≤ 24) (D30 : D ≤ 30) : ∀ (c g nf : Nat) (t2 : qS) (bs ms : Int32), g + c = 9 → c < nf → (bs = (bestF v D g).1 ∧ ms = (bestF v D g).2) ∨ (g = 0 ∧ ms = -1) → (∀ tq2, k (if w = 0 then (bestF v D 9).1 else (bestF v D 9).2) q o d tq2 zs) → wX9_bestGap_b30 k nf q o d t2 zs (nI D) w bs ms (nI (g + 1)) := by
  intro c
  induction c with
  | zero =>
    intro g nf t2 bs ms hg hn hb h
    obtain ⟨nf, rfl⟩ : ∃ m, nf = m + 1 := ⟨nf - 1, by omega⟩
    obtain rfl : g = 9 := by omega
    have K := h t2
    unfold wX9_bestGap_b30 wX9_bestGap_b125
    rcases hb with ⟨eb, em⟩ | ⟨z, -⟩
    · rw [eb, em]
      refine pk_lt 9 10 (fun _ => ⟨fun c => ?_, fun c => ?_⟩) (fun c => by omega) rfl rfl (by omega) (by omega)
      · rw [if_neg c] at K; exact K
      · rw [if_pos c] at K; exact K
    · omega
  | succ c ih =>
    intro g nf t2 bs ms hg hn hb h
    obtain ⟨nf, rfl⟩ : ∃ m, nf = m + 1 := ⟨nf - 1, by omega⟩
    have hHD : H * D ≤ 24 * 30 := Nat.mul_le_mul H24 D30
    have e29 : 29 * H * D = 29 * (H * D) := Nat.mul_assoc _ _ _
    have hF8 := hI.1.2.2.2.1
    have hC := hI.2.2.2.1.2.1
    unfold wX9_bestGap_b30 wX9_bestGap_b109
    refine pk_lt 9 (g + 1) (fun c => by omega) (fun _ => ?_) rfl rfl (by omega) (by omega)
    refine c_copy hQ hF8 hC (fun r hR t5 e5 => ?_)
    have hI2 := GI_gap hI (g := g + 1) (by omega) (by omega)
    have hH3 : upd v 3 (nI (g + 1)) 2 = nI H := by rw [upd_n (by omega)]; exact h2
    have hR5 : RQ t5 (upd v 3 (nI (g + 1))) F C := by rw [e5]; exact hR.set hF8 hC (by omega)
    refine c_runDays hR5 hI2 hH3 H24 D30 (by omega) (fun r2 _ e2 _ => ?_)
    have f2 := hQ.2.1.2.2.2.2.2.2.1
    rw [e2, f2]
    obtain ⟨C2, e, p, g1, g2, g3, g4, g5⟩ := days_gain (T := T) (F := F) H24 D _ C (29 * hrs) hI2 hH3 (by omega)
    rw [upd_n (by omega)] at g4
    have gp : daysF D (upd v 3 (nI (g + 1))) 12 - v 12 = nI p := by rw [g4, gain_sub]
    have L1 := ih (g + 1) nf r2
    rw [bestF] at L1
    rw [gp] at L1 ⊢
    rcases hb with ⟨rfl, rfl⟩ | ⟨rfl, rfl⟩
    · refine ⟨fun c y ey => ?_, fun c y ey y2 e2 => ?_⟩
      · rw [if_pos c] at L1
        rw [ey, nI_1]
        exact L1 _ _ (by omega) (by omega) (Or.inl ⟨rfl, rfl⟩) h
      · rw [if_neg c] at L1
        rw [e2, ey, nI_1]
        exact L1 _ _ (by omega) (by omega) (Or.inl ⟨rfl, rfl⟩) h
    · have hp : p < 2 ^ 30 := by omega
      have n1 : ¬ nI p ≤ -1 := by rw [le_I, nI_toInt (by omega), show ((-1 : Int32)).toInt = -1 from by decide]; omega
      have n6 : ¬ nI p ≤ (bestF v D 0).2 := by show ¬ nI p ≤ -6; rw [le_I, nI_toInt (by omega), show ((-6 : Int32)).toInt = -6 from by decide]; omega
      rw [if_neg n6] at L1
      refine ⟨fun c => absurd c n1, fun _ y ey y2 e2 => ?_⟩
      rw [e2, ey, nI_1]
      exact L1 _ _ (by omega) (by omega) (Or.inl ⟨rfl, rfl⟩) h
theorem c_XbestGap {x w : Int32} (h : RG q v) (hr : ¬ (isIn x 1 30 ∧ isIn w 0 1) → k (-2) q o d tq zs)
    (hk : isIn w 0 1 → ∀ D : Nat, 1 ≤ D → D ≤ 30 → x = nI D → ∀ tq2, k (if w = 0 then (bestF v D 9).1 else (bestF v D 9).2) q o d tq2 zs) : wX9_bestGap k q o d tq zs x w := by
  obtain ⟨T, F, C, hrs, H, hQ, hI, h6, hh, h2, H1, H24, hz⟩ := h
  unfold wX9_bestGap wX9_bestGap_b19
  refine c_in (fun c => ⟨fun z => absurd z (by decide), fun _ => c_in (fun c2 => ⟨fun _ => ⟨10, ?_⟩, fun z => absurd z (by decide)⟩) (fun c2 => ⟨fun z => absurd rfl z, fun _ => hr (fun z => c2 z.2)⟩)⟩) (fun c => ⟨fun _ => hr (fun z => c z.1), fun z => absurd rfl z⟩)
  obtain ⟨D, D1, D30, eD⟩ := isIn_30 c
  rw [eD]
  exact best_l (x := x) hQ hI hh h2 H24 D30 9 0 10 tq 1 (-1) (by omega) (by omega) (Or.inr ⟨rfl, rfl⟩) (hk c2 D D1 D30 eD)
theorem least_l {x : Int32} {T F C hrs H D : Nat} (hQ : RQ q v F C) (hI : Inv v T F C (29 * hrs)) (hh : hrs ≤ 9999) (h2 : v 2 = nI H) (H24 : H ≤ 24) (D30 : D ≤ 30) : ∀ (c t nf : Nat) (t2 : qS), t + c = 21 → c < nf → (∀ i, t ≤ i → i < 20 → v (58 + 4 * i) = 0) → (∀ tq2, k (leastF v D x c t) q o d tq2 zs) → wX9_leastTrucks_b45 k nf q o d t2 zs (nI D) x (nI t) := by
  intro c
  induction c with
  | zero =>
    intro t nf t2 hg hn h0 h
    obtain ⟨nf, rfl⟩ : ∃ m, nf = m + 1 := ⟨nf - 1, by omega⟩
    obtain rfl : t = 21 := by omega
    unfold wX9_leastTrucks_b45
    exact pk_lt 20 21 (fun _ => h t2) (fun c => by omega) rfl rfl (by omega) (by omega)
  | succ c ih =>
    intro t nf t2 hg hn h0 h
    obtain ⟨nf, rfl⟩ : ∃ m, nf = m + 1 := ⟨nf - 1, by omega⟩
    have hHD : H * D ≤ 24 * 30 := Nat.mul_le_mul H24 D30
    have e29 : 29 * H * D = 29 * (H * D) := Nat.mul_assoc _ _ _
    have hF8 := hI.1.2.2.2.1
    have hC := hI.2.2.2.1.2.1
    unfold wX9_leastTrucks_b45
    refine pk_lt 20 t (fun c => by omega) (fun _ => ?_) rfl rfl (by omega) (by omega)
    refine c_copy hQ hF8 hC (fun r hR t5 e5 => ?_)
    have hI2 := Inv_trucks hI (t := t) (by omega) h0
    have hH3 : upd v 0 (nI t) 2 = nI H := by rw [upd_n (by omega)]; exact h2
    have hR5 : RQ t5 (upd v 0 (nI t)) F C := by rw [e5]; exact hR.set hF8 hC (by omega)
    refine c_runDays hR5 hI2 hH3 H24 D30 (by omega) (fun r2 _ e2 _ => ?_)
    rw [leastF] at h
    rw [upd_n (by omega : 11 ≠ 0)]
    refine ⟨fun c y ey => ?_, fun c => ?_⟩
    · rw [if_pos c] at h
      rw [ey, nI_1]
      exact ih (t + 1) nf r2 (by omega) (by omega) (fun i i1 i2 => h0 i (by omega) i2) h
    · rw [if_neg c] at h; exact h r2
theorem least_none {x : Int32} {T F C hrs H D : Nat} (hI : Inv v T F C (29 * hrs)) (hh : hrs ≤ 9999) (h2 : v 2 = nI H) (H24 : H ≤ 24) (D30 : D ≤ 30) (hx : ¬ x ≤ nI C) : ∀ (c t : Nat), t + c = 21 → (∀ i, t ≤ i → i < 20 → v (58 + 4 * i) = 0) → leastF v D x c t = -6 := by
  intro c
  induction c with
  | zero => intro t hg h0; rfl
  | succ c ih =>
    intro t hg h0
    have hHD : H * D ≤ 24 * 30 := Nat.mul_le_mul H24 D30
    have e29 : 29 * H * D = 29 * (H * D) := Nat.mul_assoc _ _ _
    have hI2 := Inv_trucks hI (t := t) (by omega) h0
    have hH3 : upd v 0 (nI t) 2 = nI H := by rw [upd_n (by omega)]; exact h2
    obtain ⟨C2, e, p, g1, g2, g3, g4, g5⟩ := days_gain (T := t) (F := F) H24 D _ C (29 * hrs) hI2 hH3 (by omega)
    rw [upd_n (by omega)] at g3
    have hC := hI.2.2.2.1.2.1
    rw [leastF, g3, gain_sub, if_pos]
    · exact ih (t + 1) (by omega) (fun i i1 i2 => h0 i (by omega) i2)
    · rw [lt_I, nI_toInt (by omega)]
      rw [le_I, nI_toInt (by omega)] at hx
      omega
theorem c_XleastTrucks {x y : Int32} (h : RG q v) (hr : ¬ (isIn x 1 30 ∧ 0 ≤ y) → k (-2) q o d tq zs)
    (hk : 0 ≤ y → ∀ D : Nat, 1 ≤ D → D ≤ 30 → x = nI D → ∀ tq2, k (leastR v D y) q o d tq2 zs) : wX9_leastTrucks k q o d tq zs x y := by
  obtain ⟨T, F, C, hrs, H, hQ, hI, h6, hh, h2, H1, H24, hz⟩ := h
  have h5 : q 0 5 = nI C := by rw [hQ.2.1.2.2.1]; exact hI.2.2.2.1.1
  unfold wX9_leastTrucks wX9_leastTrucks_b14
  refine c_in (fun c => ⟨fun z => absurd z (by decide), fun _ => ⟨fun c2 => ?_, fun c2 => hr (fun z => c2 z.2)⟩⟩) (fun c => ⟨fun _ => hr (fun z => c z.1), fun z => absurd rfl z⟩)
  obtain ⟨D, D1, D30, eD⟩ := isIn_30 c
  have hT := hI.1.2.1
  have cT : nn (v 0) = T := by rw [hI.1.1]; exact nI_clamp (by omega)
  obtain ⟨a, a1, a2, a3⟩ := need_facts hI.1 T hT
  have K := hk c2 D D1 D30 eD
  unfold leastR at K
  have ca : nn (nI a) = a := nI_clamp (by omega)
  rw [cT, a2, ca] at K
  have h0 : ∀ i, a ≤ i → i < 20 → v (58 + 4 * i) = 0 := fun i i1 i2 => by
    by_cases z : i < T
    · exact a3 i i1 z
    · exact (hI.2.2.2.2.2 i i2).1 (by omega)
  rw [h5]
  refine ⟨fun c3 => c_leastSetting hQ hI ⟨22, ?_⟩, fun c3 => ?_⟩
  · rw [cT, a2, eD]
    exact least_l hQ hI hh h2 H24 D30 (21 - a) a 22 tq (by omega) (by omega) h0 K
  · rw [least_none hI hh h2 H24 D30 c3 (21 - a) a (by omega) h0] at K
    exact K tq
theorem c_Xwipe (h : XX q o d zs v u L sl S n pd) (hk : ∀ d2, XX q o d2 zs v u L sl S 0 pd → k (nI n) q o d2 tq zs) : wX9_wipe k q o d tq zs := by
  obtain ⟨h1, h2, h3, h4, h5, h6⟩ := h
  unfold wX9_wipe
  intro y1 e1 d2 e2
  rw [e1, h4]
  exact hk d2 ⟨h1, h2, h3, by rw [e2, up2_A, upA_s, upd_s]; rfl, by omega, fun j hj => absurd hj (Nat.not_lt_zero j)⟩
theorem c_Xundo (h : XX q o d zs v u L sl S n pd) (hr : u = 0 → k (-5) q o d tq zs)
    (hk : ∀ w, u = w + 1 → ∀ q2 o2 zs2, XX q2 o2 d zs2 (L w) w L sl S n pd → k (nI w) q2 o2 d tq zs2) : wX9_undo k q o d tq zs := by
  obtain ⟨hq, ⟨P, h1, h2, h3, h4, h5⟩, hS, hD⟩ := h
  unfold wX9_undo
  rw [h3]
  refine ⟨fun c => ?_, fun c => ?_⟩
  · have hu : u ≠ 0 := fun z => c (by rw [z]; rfl)
    obtain ⟨w, rfl⟩ : ∃ z, u = z + 1 := ⟨u - 1, by omega⟩
    unfold wX4_takeLatest wX4_takeLatest_b52
    intro y1 e1 o2 e2 y3 e3 o4 e4
    rw [h1, ring_6 P h2] at e1
    have e01 : o2 0 1 = nI (w + 1) := by rw [e2, up2_A, upA_s, upd_n (by omega)]; exact h3
    rw [e01, nI_pred] at e3
    have g0 : o4 0 0 = nI ((P + 6) % 7) := by rw [e4, up2_A, upA_s, upd_n (by omega), e2, up2_A, upA_s, upd_s, e1]
    have g1 : o4 0 1 = nI w := by rw [e4, up2_A, upA_s, upd_s, e3]
    have gs : o4 1 = o 1 := by rw [e4, up2_A, upA_n (by decide), e2, up2_A, upA_n (by decide)]
    have hL : RG (zs ((P + 6) % 7)) (L w) := by
      have := h5 w (by omega)
      rw [show (P + 7 - (w + 1) + w) % 7 = (P + 6) % 7 from by omega] at this
      exact this
    rw [g0]
    refine c_in (fun c => ⟨fun z => absurd z (by decide), fun _ => ⟨vp_in_nI (by omega) (by omega), ?_⟩⟩) (fun c => absurd (isIn_nI (a := 0) (b := 6) (by omega) (by omega) (by omega) (by omega)) c)
    rw [nI_clamp (by omega)]
    refine c_copyG hL (fun r hr2 zs9 e9 => ?_)
    show k (o4 0 1) r o4 d tq zs9
    rw [g1]
    refine hk w rfl r o4 zs9 ⟨hr2, ⟨(P + 6) % 7, ?_⟩, fun s hs => ?_, hD⟩
    · have base : XH o4 zs ((P + 6) % 7) w L := ⟨g0, by omega, g1, by omega, fun i hi => by
        have := h5 i (by omega)
        rw [show (P + 7 - (w + 1) + i) % 7 = ((P + 6) % 7 + 7 - w + i) % 7 from by omega] at this
        exact this⟩
      rw [e9]; exact base.up (Or.inl rfl)
    · rw [gs, e9]; unfold upZ; rw [if_neg (by omega)]; exact hS s hs
  · have hu : u = 0 := by
      rw [show (0 : Int32) = nI 0 from rfl, nI_eq (by omega) (by omega)] at c; exact c
    exact hr hu
theorem c_slot {kk : Int32 → qS → qS → qS → qS → (Nat → qS) → Prop} {x : Int32} (h1 : ∀ s, s < 2 → x = nI s → kk 1 q o d tq zs) (h0 : (¬ ∃ s, s < 2 ∧ x = nI s) → kk 0 q o d tq zs) : wX7_has kk q o d tq zs x := by
  unfold wX7_has
  rw [show (1 : Int32) = nI 2 - 1 from by decide]
  refine c_in (fun c => ?_) (fun c => ?_)
  · obtain ⟨s, hs, e⟩ := (isIn_n (by omega)).mp c
    exact ⟨rfl, h1 s hs e⟩
  · exact ⟨rfl, h0 (fun z => c ((isIn_n (by omega)).mpr z))⟩
theorem c_Xsave {x : Int32} (h : XX q o d zs v u L sl S n pd) (hr : (¬ ∃ s, s < 2 ∧ x = nI s) → k (-2) q o d tq zs)
    (hk : ∀ s, s < 2 → x = nI s → ∀ o2 zs2, XX q o2 d zs2 v u L (fun i => if i = s then 1 else sl i) (fun i => if i = s then v else S i) n pd → k (v 7) q o2 d tq zs2) : wX9_save k q o d tq zs x := by
  obtain ⟨hq, ⟨P, hH⟩, hS, hD⟩ := h
  unfold wX9_save
  refine c_slot (fun s hs e => ⟨fun _ => ?_, fun z => absurd z (by decide)⟩) (fun c => ⟨fun z => absurd rfl z, fun _ => hr c⟩)
  unfold wX7_fill wX7_fill_b25
  have cs : Int32.toNatClampNeg (nI s) = s := nI_clamp (by omega)
  refine c_slot (fun s2 hs2 e' => ⟨fun z => absurd z (by decide), fun _ => ?_⟩) (fun c => absurd ⟨s, hs, e⟩ c)
  rw [e, cs]
  have f7 : q 0 4 = v 7 := by
    obtain ⟨T, F, C, hr, H, g, -⟩ := hq
    exact g.2.1.2.1
  refine ⟨vp_in_nI (by omega) (by omega), c_copyG hq (fun r hR zs10 e10 => ⟨vp_in_nI (by omega) (by omega), fun o11 e11 => ?_⟩)⟩
  show k (q 0 4) q o11 d tq zs10
  rw [f7]
  have en : vp_nar .boolean (1 : Int32) = 1 := by decide
  rw [en] at e11
  have g0 : o11 0 = o 0 := by rw [e11, up2_A, upA_n (by decide)]
  have g1 : o11 1 = upd (o 1) s 1 := by rw [e11, up2_A, upA_s]
  refine hk s hs e o11 zs10 ⟨hq, ⟨P, ?_⟩, fun i hi => ?_, hD⟩
  · have b : XH o11 zs P u L := by
      obtain ⟨h1, h2, h3, h4, h5⟩ := hH
      exact ⟨by rw [g0]; exact h1, h2, by rw [g0]; exact h3, h4, h5⟩
    rw [e10]; exact b.up (Or.inr (by omega))
  · show o11 1 i = (if i = s then 1 else sl i) ∧ (¬ (if i = s then 1 else sl i) = 0 → RG (zs10 (7 + i)) (if i = s then v else S i))
    rw [g1, e10]
    unfold upZ
    by_cases z : i = s
    · subst z
      rw [upd_s, if_pos rfl, if_pos rfl, if_pos rfl]
      exact ⟨rfl, fun _ => hR⟩
    · rw [upd_n z, if_neg z, if_neg z, if_neg (by omega)]
      exact hS i hi
theorem c_Xrestore {x : Int32} (h : XX q o d zs v u L sl S n pd) (hr : (¬ ∃ s, s < 2 ∧ x = nI s) → k (-2) q o d tq zs)
    (hn : ∀ s, s < 2 → x = nI s → sl s = 0 → k (-5) q o d tq zs)
    (hk : ∀ s, s < 2 → x = nI s → ¬ sl s = 0 → ∀ q2 o2 zs2, XX q2 o2 d zs2 (S s) (recU u) (recL u L v) sl S n pd → k (S s 7) q2 o2 d tq zs2) : wX9_restore k q o d tq zs x := by
  unfold wX9_restore
  refine c_slot (fun s hs e => ⟨fun _ => ?_, fun z => absurd z (by decide)⟩) (fun c => ⟨fun z => absurd rfl z, fun _ => hr c⟩)
  have cs : Int32.toNatClampNeg (nI s) = s := nI_clamp (by omega)
  rw [e, cs, (h.2.2.1 s hs).1]
  refine ⟨vp_in_nI (by omega) (by omega), fun c => c_prepare h (fun zs2 hX hP => ⟨vp_in_nI (by omega) (by omega), ?_⟩), fun c => hn s hs e c⟩
  have hG := (hX.2.2.1 s hs).2 c
  refine c_copyG hG (fun r hR zs16 e16 => ?_)
  have f7 : ∃ F, r 0 4 = S s 7 ∧ S s 7 = nI F ∧ F ≤ 8 := by
    obtain ⟨T, F, C, hr, H, g, g2, -⟩ := hR
    exact ⟨F, g.2.1.2.1, g2.1.2.2.1, g2.1.2.2.2.1⟩
  obtain ⟨F, f1, f2, f3⟩ := f7
  have hzz : zs16 = zs2 := by
    rw [e16]; funext j; unfold upZ
    by_cases z : j = 7 + s
    · rw [if_pos z, z]
    · rw [if_neg z]
  rw [hzz, f1]
  refine c_rec hR ⟨hR, hX.2⟩ hP (by rw [f2]; exact nI_pos (by omega)) (fun o2 hX2 => hk s hs e c r o2 zs2 hX2)
end CF
