/-! ===== the reference: trucks that would do; undo, slots, the pad's length ===== -/
theorem need_facts {v : vS} {T F : Nat} (hv : hrOk v T F) : ∀ n, n ≤ 20 → ∃ a, a ≤ n ∧ needF v n = nI a ∧ ∀ t, a ≤ t → t < n → v (58 + 4 * t) = 0
  | 0, _ => ⟨0, Nat.le_refl 0, rfl, fun t _ h => absurd h (Nat.not_lt_zero t)⟩
  | n + 1, hn => by
    obtain ⟨a, a1, a2, a3⟩ := need_facts hv n (by omega)
    unfold needF
    by_cases c : v (58 + 4 * n) ≤ 0
    · rw [if_pos c]
      refine ⟨a, by omega, a2, fun t t1 t2 => ?_⟩
      by_cases e : t = n
      · subst e
        obtain ⟨b, b1, b2⟩ := hv.2.2.2.2.1 t (by omega)
        rw [b2, nI_le0 (by have := hv.2.2.2.1; omega)] at c
        rw [b2, c]; rfl
      · exact a3 t t1 (by omega)
    · rw [if_neg c]
      exact ⟨n + 1, by omega, rfl, fun t t1 t2 => by omega⟩
/-- with t trucks, of which none is wanted beyond -/
theorem Inv_trucks {v : vS} {T F C N t : Nat} (hI : Inv v T F C N) (ht : t ≤ 20) (h0 : ∀ i, t ≤ i → i < 20 → v (58 + 4 * i) = 0) : Inv (upd v 0 (nI t)) t F C N := by
  obtain ⟨⟨b1, b2, b3, b4, b5, b6⟩, a2, a3, a4, a5, a6⟩ := hI
  refine ⟨⟨upd_s, ht, by rw [upd_n (by omega)]; exact b3, b4, fun i hi => ?_, fun f hf => ?_⟩, a2.keep (fun j _ _ => upd_n (by omega)), a3.keep (upd_n (by omega)) (fun j _ _ => upd_n (by omega)), a4.keep (upd_n (by omega)) (fun j _ _ => upd_n (by omega)), a5.keep b4 (fun j _ _ => upd_n (by omega)), fun i hi => ?_⟩
  · obtain ⟨x, x1, x2⟩ := b5 i hi
    exact ⟨x, x1, by rw [upd_n (by omega)]; exact x2⟩
  · obtain ⟨x, x1, x2, x3⟩ := b6 f hf
    exact ⟨x, x1, x2, by rw [upd_n (by omega)]; exact x3⟩
  · rw [upd_n (by omega), upd_n (by omega)]
    exact ⟨fun q => h0 i q hi, (a6 i hi).2⟩
/-- from t trucks on, d numbers of them: the first one that delivers x contracts in D days -/
def leastF (v : vS) (D : Nat) (x : Int32) : Nat → Nat → Int32
  | 0, _ => -6
  | d + 1, t => if daysF D (upd v 0 (nI t)) 11 - v 11 < x then leastF v D x d (t + 1) else nI t
def leastR (v : vS) (D : Nat) (x : Int32) : Int32 := leastF v D x (21 - nn (needF v (nn (v 0)))) (nn (needF v (nn (v 0))))
section MT
variable {m : qS} {v : vS} {u : Nat} {L : Nat → vS} {sl : Nat → Int32} {S : Nat → vS} {n : Nat} {pd : Nat → Int32} {k : Int32 → qS → Prop}
theorem e_least_end {D : Int32} {x z y : Int32} {q : qS} {nf : Nat} (hz : ¬ z = -6) (h : k z q) : wX10_leastTrucks_b35 k (nf + 1) q D x z y := by
  unfold wX10_leastTrucks_b35 wX10_leastTrucks_b83
  exact ⟨fun _ => h, fun _ => ⟨fun _ => h, fun c => absurd c hz⟩⟩
theorem e_least_l {T F C hrs H D : Nat} {x : Int32} (hI : Inv v T F C (29 * hrs)) (hh : hrs ≤ 9999) (hH2 : v 2 = nI H) (H24 : H ≤ 24) (D30 : D ≤ 30) : ∀ (d t nf : Nat) (q : qS), MM q v u L sl S n pd → (∀ j, j < 210 → q 2 j = v j) → t + d = 21 → d < nf → (∀ i, t ≤ i → i < 20 → v (58 + 4 * i) = 0) → (∀ r, MM r v u L sl S n pd → k (leastF v D x d t) r) → wX10_leastTrucks_b35 k (nf + 1) q (nI D) x (-6) (nI t) := by
  intro d
  induction d with
  | zero =>
    intro t nf q hq ha hg hn h0 h
    obtain rfl : t = 21 := by omega
    unfold wX10_leastTrucks_b35 wX10_leastTrucks_b83
    exact pk_lt 20 21 (fun _ => h q hq) (fun c => by omega) rfl rfl (by omega) (by omega)
  | succ d ih =>
    intro t nf q hq ha hg hn h0 h
    obtain ⟨nf, rfl⟩ : ∃ m, nf = m + 1 := ⟨nf - 1, by omega⟩
    have hHD : H * D ≤ 24 * 30 := Nat.mul_le_mul H24 D30
    have e29 : 29 * H * D = 29 * (H * D) := Nat.mul_assoc _ _ _
    unfold wX10_leastTrucks_b35 wX10_leastTrucks_b83 wX10_leastTrucks_b72
    refine pk_lt 20 t (fun c => by omega) (fun _ => ⟨fun c => absurd rfl c, fun _ q4 e4 => ?_⟩) rfl rfl (by omega) (by omega)
    have hI2 := Inv_trucks hI (t := t) (by omega) h0
    have hH3 : upd v 0 (nI t) 2 = nI H := by rw [upd_n (by omega)]; exact hH2
    have hv4 : q4 1 = upd v 0 (nI t) := by rw [e4, up2_A, upA_s, hq.1]
    have hq4 : MM q4 (upd v 0 (nI t)) u L sl S n pd := by rw [e4, up2_A, hq.1]; exact hq.v
    refine e_days (T := t) (F := F) (C := C) (N := 29 * hrs) (H := H) (by rw [hv4]; exact hI2) (by rw [hv4]; exact hH3) H24 D30 (by omega) (fun r3 hF hr3 => ?_)
    rw [hv4] at hr3 ⊢
    rw [hr3, upd_n (by omega : 11 ≠ 0)]
    rw [leastF] at h
    have back : ∀ (kk : qS → Prop), (∀ r, MM r v u L sl S n pd → (∀ j, j < 210 → r 2 j = v j) → kk r) → wX10_takeBack kk r3 := fun kk hkk =>
      e_back (w := daysF D (upd v 0 (nI t))) (v := v) (hq4.fr hF hr3) (fun j hj => by rw [hF.1 2 (by decide) (by decide), e4, up2_A, upA_n (by decide)]; exact ha j hj) (fun j hj => by rw [days_hi H24 D _ C _ hI2 hH3 (by omega) j hj, upd_n (by omega)]) (fun r4 hr4 h42 => hkk r4 hr4 (fun j hj => by rw [h42, hF.1 2 (by decide) (by decide), e4, up2_A, upA_n (by decide)]; exact ha j hj))
    refine ⟨fun c => back _ (fun r4 hr4 ha4 y ey => ?_), fun c => back _ (fun r4 hr4 ha4 y ey => ?_)⟩
    · rw [if_pos c] at h
      rw [ey, nI_1]
      exact ih (t + 1) nf r4 hr4 ha4 (by omega) (by omega) (fun i i1 i2 => h0 i (by omega) i2) h
    · rw [if_neg c] at h
      exact e_least_end (nI_ne6 (by omega)) (h r4 hr4)
theorem e_leastTrucks {x y : Int32} (h : MM m v u L sl S n pd) (hg : GI v) (hr : ¬ (isIn x 1 30 ∧ 0 ≤ y) → ∀ r, MM r v u L sl S n pd → k (-2) r)
    (hk : 0 ≤ y → ∀ D : Nat, 1 ≤ D → D ≤ 30 → x = nI D → ∀ r, MM r v u L sl S n pd → k (leastR v D y) r) : wX10_leastTrucks k m x y := by
  unfold wX10_leastTrucks wX10_leastTrucks_b19
  intro q1 e1
  have h1 := h.th 0
  rw [← e1] at h1
  refine e_inC (fun c => ⟨fun z => absurd z (by decide), fun _ => ⟨fun c2 => ?_, fun c2 => hr (fun z => c2 z.2) q1 h1⟩⟩) (fun c => ⟨fun _ => hr (fun z => c z.1) q1 h1, fun z => absurd rfl z⟩)
  obtain ⟨D, D1, D30, eD⟩ := isIn_30 c
  obtain ⟨T, F, C, hrs, H, hI, h6, hh, hH2, H1, H24⟩ := hg
  have hT := hI.1.2.1
  have cT : nn (v 0) = T := by rw [hI.1.1]; exact nI_clamp (by omega)
  obtain ⟨a, a1, a2, a3⟩ := need_facts hI.1 T hT
  refine e_aside h1 (fun r2 hr2 ha => ?_)
  have hv2 := hr2.1
  refine e_need (T := T) (by rw [hv2]; exact hI.1.1) hT ⟨23, ?_⟩
  have K := hk c2 D D1 D30 eD
  unfold leastR at K
  rw [cT, a2] at K
  have ca : nn (nI a) = a := nI_clamp (by omega)
  rw [ca] at K
  rw [hv2, a2, eD]
  refine e_least_l hI hh hH2 H24 D30 (21 - a) a 22 r2 hr2 ha (by omega) (by omega) (fun i i1 i2 => ?_) K
  by_cases z : i < T
  · exact a3 i i1 z
  · exact (hI.2.2.2.2.2 i i2).1 (by omega)
/-- undo -/
theorem e_undo_l {q : qS} {w : Nat} (hw : w < 6) (h4 : q 0 4 = nI w) : ∀ (d i nf : Nat), i + d = 210 → d < nf → k (nI w) (upA q 1 (fun j => if j < 210 then q 3 (210 * w + j) else q 1 j)) → wX10_undo_b27 k nf (upA q 1 (fun j => if j < i then q 3 (210 * w + j) else q 1 j)) (nI i) := by
  intro d
  induction d with
  | zero =>
    intro i nf hi hn h
    obtain ⟨nf, rfl⟩ : ∃ m, nf = m + 1 := ⟨nf - 1, by omega⟩
    obtain rfl : i = 210 := by omega
    unfold wX10_undo_b27
    refine pk_le 210 210 (fun _ => ?_) (fun c => by omega) rfl rfl (by omega) (by omega)
    rw [show upA q 1 (fun j => if j < 210 then q 3 (210 * w + j) else q 1 j) 0 4 = nI w from by rw [upA_n (by decide)]; exact h4]
    exact h
  | succ d ih =>
    intro i nf hi hn h
    obtain ⟨nf, rfl⟩ : ∃ m, nf = m + 1 := ⟨nf - 1, by omega⟩
    unfold wX10_undo_b27
    refine pk_le 210 i (fun c => by omega) (fun _ => ?_) rfl rfl (by omega) (by omega)
    have e0 : upA q 1 (fun j => if j < i then q 3 (210 * w + j) else q 1 j) 0 4 = nI w := by rw [upA_n (by decide)]; exact h4
    rw [e0, ix210, nI_clamp (by omega), nI_clamp (by omega), upA_n (by decide)]
    refine ⟨vp_in_nI (by omega) (by omega), fun y ey => ⟨vp_in_nI (by omega) (by omega), fun q2 e2 y3 e3 => ?_⟩⟩
    rw [e3, e2, ey, nI_1, up2_A, upA_A, upA_s]
    have e : upd (fun j => if j < i then q 3 (210 * w + j) else q 1 j) i (q 3 (210 * w + i)) = (fun j => if j < i + 1 then q 3 (210 * w + j) else q 1 j) := by
      funext j
      by_cases c : j = i
      · subst c; rw [upd_s, if_pos (by omega)]
      · rw [upd_n c]
        by_cases c2 : j < i
        · rw [if_pos c2, if_pos (by omega)]
        · rw [if_neg c2, if_neg (by omega)]
    rw [e]
    exact ih (i + 1) nf (by omega) (by omega) h
theorem e_undo (h : MM m v u L sl S n pd) (hL : ∀ i, i < u → ∀ j, 210 ≤ j → L i j = v j) (hr : u = 0 → ∀ r, MM r v u L sl S n pd → k (-5) r)
    (hk : ∀ w, u = w + 1 → ∀ r, MM r (L w) w L sl S n pd → k (nI w) r) : wX10_undo k m := by
  unfold wX10_undo
  intro q1 e1
  have h1 := h.th 0
  rw [← e1] at h1
  obtain ⟨a1, a2, a3, a4, a5, a6, a7, a8, a9⟩ := id h1
  refine ⟨fun c => ?_, fun c => ?_⟩
  · have hu : u ≠ 0 := fun z => c (by rw [a2, z]; rfl)
    obtain ⟨w, rfl⟩ : ∃ z, u = z + 1 := ⟨u - 1, by omega⟩
    intro y5 e5 q6 e6
    have h64 : q6 0 4 = nI w := by rw [e6, up2_A, upA_s, upd_s, e5, a2, nI_pred]
    have g : ∀ i, i ≠ 0 → q6 i = q1 i := fun i hi => by rw [e6, up2_A, upA_n hi]
    have U := e_undo_l (k := k) (q := q6) (w := w) (by omega) h64 210 0 211 (by omega) (by omega)
    have e0 : (fun j => if j < 0 then q6 3 (210 * w + j) else q6 1 j) = q6 1 := by funext j; rw [if_neg (by omega)]
    rw [e0, upA_id] at U
    refine ⟨211, U ?_⟩
    have ev : (fun j => if j < 210 then q6 3 (210 * w + j) else q6 1 j) = L w := by
      funext j
      by_cases c2 : j < 210
      · rw [if_pos c2, g 3 (by decide)]; exact a4 w (by omega) j c2
      · rw [if_neg c2, g 1 (by decide), a1]; exact (hL w (by omega) j (by omega)).symm
    rw [ev]
    refine hk w rfl _ ⟨upA_s, by rw [upA_n (by decide)]; exact h64, by omega, ?_, ?_, ?_, ?_, a8, ?_⟩
    · rw [upA_n (by decide), g 3 (by decide)]; exact fun i hi => a4 i (by omega)
    · rw [upA_n (by decide), g 6 (by decide)]; exact a5
    · rw [upA_n (by decide), g 5 (by decide)]; exact a6
    · rw [upA_n (by decide), e6, up2_A, upA_s, upd_n (by decide)]; exact a7
    · rw [upA_n (by decide), g 7 (by decide)]; exact a9
  · have hu : u = 0 := by
      rw [a2, show (0 : Int32) = nI 0 from rfl, nI_eq (by omega) (by omega)] at c; exact c
    exact hr hu q1 h1
theorem e_wipe (h : MM m v u L sl S n pd) (hk : ∀ r, MM r v u L sl S 0 pd → k (nI n) r) : wX10_wipe k m := by
  unfold wX10_wipe
  intro q1 e1
  have h1 := h.th 0
  rw [← e1] at h1
  obtain ⟨a1, a2, a3, a4, a5, a6, a7, a8, a9⟩ := id h1
  intro y2 e2 q3 e3
  have g : ∀ i, i ≠ 0 → q3 i = q1 i := fun i hi => by rw [e3, up2_A, upA_n hi]
  rw [e2, a7]
  refine hk q3 ⟨by rw [g 1 (by decide)]; exact a1, by rw [e3, up2_A, upA_s, upd_n (by decide)]; exact a2, a3, by rw [g 3 (by decide)]; exact a4, by rw [g 6 (by decide)]; exact a5, by rw [g 5 (by decide)]; exact a6, by rw [e3, up2_A, upA_s, upd_s]; rfl, by omega, fun j hj => absurd hj (Nat.not_lt_zero j)⟩
theorem e_save_l {q : qS} {s : Nat} (hs : s < 2) : ∀ (d i nf : Nat) (f : Nat → Int32), i + d = 210 → d < nf → k (q 1 7) (up2 (upA q 5 (fun j => if 210 * s + i ≤ j ∧ j < 210 * s + 210 then q 1 (j - 210 * s) else f j)) 6 s 1) → wX10_save_b19 k nf (upA q 5 f) (nI s) (nI i) := by
  intro d
  induction d with
  | zero =>
    intro i nf f hi hn h
    obtain ⟨nf, rfl⟩ : ∃ m, nf = m + 1 := ⟨nf - 1, by omega⟩
    unfold wX10_save_b19
    refine pk_le 210 i (fun _ => ?_) (fun c => by omega) rfl rfl (by omega) (by omega)
    refine ⟨vp_in_nI (by omega) (by omega), fun q1 e1 => ?_⟩
    have en : vp_nar .boolean (1 : Int32) = 1 := by decide
    rw [en, nI_clamp (by omega)] at e1
    have e3 : (fun j => if 210 * s + i ≤ j ∧ j < 210 * s + 210 then q 1 (j - 210 * s) else f j) = f := by funext j; rw [if_neg (by omega)]
    rw [e3] at h
    rw [e1, show up2 (upA q 5 f) 6 s 1 1 7 = q 1 7 from by rw [up2_A, upA_n (by decide), upA_n (by decide)]]
    exact h
  | succ d ih =>
    intro i nf f hi hn h
    obtain ⟨nf, rfl⟩ : ∃ m, nf = m + 1 := ⟨nf - 1, by omega⟩
    unfold wX10_save_b19
    refine pk_le 210 i (fun c => by omega) (fun _ => ?_) rfl rfl (by omega) (by omega)
    rw [ix210, nI_clamp (by omega), nI_clamp (by omega), upA_n (by decide)]
    refine ⟨vp_in_nI (by omega) (by omega), fun y ey => ⟨vp_in_nI (by omega) (by omega), fun q4 e4 y5 e5 => ?_⟩⟩
    rw [e5, e4, ey, nI_1, up2_A, upA_A, upA_s]
    refine ih (i + 1) nf _ (by omega) (by omega) ?_
    have e : (fun j => if 210 * s + (i + 1) ≤ j ∧ j < 210 * s + 210 then q 1 (j - 210 * s) else upd f (210 * s + i) (q 1 i) j) = (fun j => if 210 * s + i ≤ j ∧ j < 210 * s + 210 then q 1 (j - 210 * s) else f j) := by
      funext j
      by_cases c1 : j = 210 * s + i
      · subst c1; rw [if_neg (by omega), upd_s, if_pos (by omega)]
        exact congrArg (q 1) (by omega)
      · rw [upd_n c1]
        by_cases c2 : 210 * s + i ≤ j ∧ j < 210 * s + 210
        · rw [if_pos (by omega), if_pos c2]
        · rw [if_neg (by omega), if_neg c2]
    rw [e]
    exact h
theorem e_save {x : Int32} (h : MM m v u L sl S n pd) (hr : (¬ ∃ s, s < 2 ∧ x = nI s) → ∀ r, MM r v u L sl S n pd → k (-2) r)
    (hk : ∀ s, s < 2 → x = nI s → ∀ r, MM r v u L (fun i => if i = s then 1 else sl i) (fun i => if i = s then v else S i) n pd → k (v 7) r) : wX10_save k m x := by
  unfold wX10_save
  intro q1 e1
  have h1 := h.th 0
  rw [← e1] at h1
  obtain ⟨a1, a2, a3, a4, a5, a6, a7, a8, a9⟩ := id h1
  refine e_inC (fun c => ⟨fun _ => ?_, fun z => absurd z (by decide)⟩) (fun c => ⟨fun z => absurd rfl z, fun _ => hr (fun z => c (by rw [show (1 : Int32) = nI 2 - 1 from by decide]; exact (isIn_n (by omega)).mpr z)) q1 h1⟩)
  rw [show (1 : Int32) = nI 2 - 1 from by decide] at c
  obtain ⟨s, hs, e⟩ := (isIn_n (by omega)).mp c
  refine ⟨211, ?_⟩
  rw [e]
  have U := e_save_l (k := k) (q := q1) hs 210 0 211 (q1 5) (by omega) (by omega)
  rw [upA_id] at U
  refine U ?_
  rw [a1]
  refine hk s hs e _ ⟨?_, ?_, a3, ?_, ?_, ?_, ?_, a8, ?_⟩
  · rw [up2_A, upA_n (by decide), upA_n (by decide)]; exact a1
  · rw [up2_A, upA_n (by decide), upA_n (by decide)]; exact a2
  · rw [up2_A, upA_n (by decide), upA_n (by decide)]; exact a4
  · intro i hi
    rw [up2_A, upA_s, upA_n (by decide)]
    show _ = if i = s then 1 else sl i
    by_cases z : i = s
    · rw [if_pos z, z, upd_s]
    · rw [upd_n z, if_neg z]; exact a5 i hi
  · intro i hi j hj
    rw [up2_A, upA_n (by decide), upA_s]
    show _ = (if i = s then v else S i) j
    by_cases z : i = s
    · rw [if_pos (by omega), if_pos z]
      exact congrArg v (by omega)
    · rw [if_neg (by omega), if_neg z]; exact a6 i hi j hj
  · rw [up2_A, upA_n (by decide), upA_n (by decide)]; exact a7
  · rw [up2_A, upA_n (by decide), upA_n (by decide)]; exact a9
theorem e_restore_l {q : qS} {s : Nat} (hs : s < 2) : ∀ (d i nf : Nat), i + d = 210 → d < nf → k (q 5 (210 * s + 7)) (upA q 1 (fun j => if j < 210 then q 5 (210 * s + j) else q 1 j)) → wX10_restore_b35 k nf (upA q 1 (fun j => if j < i then q 5 (210 * s + j) else q 1 j)) (nI s) (nI i) := by
  intro d
  induction d with
  | zero =>
    intro i nf hi hn h
    obtain ⟨nf, rfl⟩ : ∃ m, nf = m + 1 := ⟨nf - 1, by omega⟩
    obtain rfl : i = 210 := by omega
    unfold wX10_restore_b35
    refine pk_le 210 210 (fun _ => ?_) (fun c => by omega) rfl rfl (by omega) (by omega)
    rw [show upA q 1 (fun j => if j < 210 then q 5 (210 * s + j) else q 1 j) 1 7 = q 5 (210 * s + 7) from by rw [upA_s, if_pos (by omega)]]
    exact h
  | succ d ih =>
    intro i nf hi hn h
    obtain ⟨nf, rfl⟩ : ∃ m, nf = m + 1 := ⟨nf - 1, by omega⟩
    unfold wX10_restore_b35
    refine pk_le 210 i (fun c => by omega) (fun _ => ?_) rfl rfl (by omega) (by omega)
    rw [ix210, nI_clamp (by omega), nI_clamp (by omega), upA_n (by decide)]
    refine ⟨vp_in_nI (by omega) (by omega), fun y ey => ⟨vp_in_nI (by omega) (by omega), fun q2 e2 y3 e3 => ?_⟩⟩
    rw [e3, e2, ey, nI_1, up2_A, upA_A, upA_s]
    have e : upd (fun j => if j < i then q 5 (210 * s + j) else q 1 j) i (q 5 (210 * s + i)) = (fun j => if j < i + 1 then q 5 (210 * s + j) else q 1 j) := by
      funext j
      by_cases c : j = i
      · subst c; rw [upd_s, if_pos (by omega)]
      · rw [upd_n c]
        by_cases c2 : j < i
        · rw [if_pos c2, if_pos (by omega)]
        · rw [if_neg c2, if_neg (by omega)]
    rw [e]
    exact ih (i + 1) nf (by omega) (by omega) h
theorem e_restore {x : Int32} (h : MM m v u L sl S n pd) (hS : ∀ s, s < 2 → ¬ sl s = 0 → ∀ j, 210 ≤ j → S s j = v j) (hr : (¬ ∃ s, s < 2 ∧ x = nI s) → ∀ r, MM r v u L sl S n pd → k (-2) r)
    (hn : ∀ s, s < 2 → x = nI s → sl s = 0 → ∀ r, MM r v u L sl S n pd → k (-5) r)
    (hk : ∀ s, s < 2 → x = nI s → ¬ sl s = 0 → ∀ r, MM r (S s) (recU u) (recL u L v) sl S n pd → k (S s 7) r) : wX10_restore k m x := by
  unfold wX10_restore
  intro q1 e1
  have h1 := h.th 0
  rw [← e1] at h1
  refine e_inC (fun c => ⟨fun _ => ?_, fun z => absurd z (by decide)⟩) (fun c => ⟨fun z => absurd rfl z, fun _ => hr (fun z => c (by rw [show (1 : Int32) = nI 2 - 1 from by decide]; exact (isIn_n (by omega)).mpr z)) q1 h1⟩)
  rw [show (1 : Int32) = nI 2 - 1 from by decide] at c
  obtain ⟨s, hs, e⟩ := (isIn_n (by omega)).mp c
  rw [e, nI_clamp (by omega), h1.2.2.2.2.1 s hs]
  refine ⟨vp_in_nI (by omega) (by omega), fun c2 => e_recs h1 (fun r hr2 => ⟨211, ?_⟩), fun c2 => hn s hs e c2 q1 h1⟩
  obtain ⟨a1, a2, a3, a4, a5, a6, a7, a8, a9⟩ := id hr2
  have U := e_restore_l (k := k) (q := r) hs 210 0 211 (by omega) (by omega)
  have e0 : (fun j => if j < 0 then r 5 (210 * s + j) else r 1 j) = r 1 := by funext j; rw [if_neg (by omega)]
  rw [e0, upA_id] at U
  refine U ?_
  have ev : (fun j => if j < 210 then r 5 (210 * s + j) else r 1 j) = S s := by
    funext j
    by_cases c3 : j < 210
    · rw [if_pos c3]; exact a6 s hs j c3
    · rw [if_neg c3, a1]; exact (hS s hs c2 j (by omega)).symm
  rw [ev, a6 s hs 7 (by omega)]
  exact hk s hs e c2 _ hr2.v
end MT
