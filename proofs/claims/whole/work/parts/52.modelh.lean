/-! ===== the reference: what there is ===== -/
/-- how many of the first n trucks come from the face x -/
def fromF (v : vS) (x : Int32) : Nat → Int32
  | 0 => 0
  | n + 1 => fromF v x n + (if v (58 + 4 * n) = x + 1 then 1 else 0)
/-- how many of the first n trucks are on their way -/
def wayF (v : vS) : Nat → Int32
  | 0 => 0
  | n + 1 => wayF v n + (if v (58 + 4 * n) ≤ 0 then 0 else 1)
/-- the stone in front, of the first n hardnesses -/
def frontF (v : vS) : Nat → Int32
  | 0 => 0
  | n + 1 => frontF v n + v (16 + (n + 1))
def ofFaceR (v : vS) (j : Nat) (w : Int32) : Int32 := if w = 0 then v (26 + 4 * j) else if w = 1 then v (27 + 4 * j) else if w = 2 then v (28 + 4 * j) else if w = 3 then fromF v (nI j) (nn (v 0)) else if w = 4 then v (29 + 4 * j) else -2
def truckR (v : vS) (t : Nat) (w : Int32) : Int32 := if ¬ isIn w 0 3 then -2 else if ¬ 3 ≤ w ∧ v (58 + 4 * t) = 0 then -6 else if w = 0 then v (58 + 4 * t) - 1 else v (58 + 4 * t + nn w)
def ofConR (v : vS) (c : Nat) (w : Int32) : Int32 := if ¬ isIn w 0 8 then -2 else if ¬ 6 ≤ w then trF v c (nn w) else if w = 6 then reasonF v c else if ¬ reasonF v c = 0 then -6 else if w = 7 then fineF v c else coarseF v c
def countR (v : vS) (n u : Nat) (w : Int32) : Int32 := if w = 0 then v 6 else if w = 1 then v 7 else if w = 2 then v 8 else if w = 3 then wayF v (nn (v 0)) else if w = 4 then frontF v 9 else if w = 5 then v 9 else if w = 6 then v 10 else if w = 7 then capF v else if w = 8 then v 11 else if w = 9 then v 12 else if w = 10 then v 13 else if isIn w 11 16 then v (nn (w - 11)) else if w = 17 then nI n else if w = 18 then nI u else -2
section MG
variable {m : qS} {v : vS} {u : Nat} {L : Nat → vS} {sl : Nat → Int32} {S : Nat → vS} {n : Nat} {pd : Nat → Int32} {k : Int32 → qS → Prop}
theorem e_from_l {T : Nat} {x : Int32} (h0 : m 1 0 = nI T) (hT : T ≤ 20) : ∀ (d i n : Nat), i + d = T → d < n → k (fromF (m 1) x T) m → wX10_onWayFrom_b4 k n m x (fromF (m 1) x i) (nI i) := by
  intro d
  induction d with
  | zero =>
    intro i n hi hn h
    obtain ⟨n, rfl⟩ : ∃ m, n = m + 1 := ⟨n - 1, by omega⟩
    unfold wX10_onWayFrom_b4
    refine pk_le T i (fun _ => ?_) (fun c => by omega) h0 rfl (by omega) (by omega)
    rw [show i = T from by omega]; exact h
  | succ d ih =>
    intro i n hi hn h
    obtain ⟨n, rfl⟩ : ∃ m, n = m + 1 := ⟨n - 1, by omega⟩
    unfold wX10_onWayFrom_b4 wX10_onWayFrom_b32
    refine pk_le T i (fun c => by omega) (fun _ => ?_) h0 rfl (by omega) (by omega)
    have L := ih (i + 1) n (by omega) (by omega) h
    rw [fromF] at L
    refine e_truckOf i 0 (by omega) ⟨fun c y e y2 e2 => ?_, fun c y e y2 e2 => ?_⟩
    · rw [if_neg (show ¬ m 1 (58 + 4 * i) = x + 1 from c)] at L; rw [e2, e, nI_1]; exact L
    · rw [if_pos (show m 1 (58 + 4 * i) = x + 1 from c)] at L; rw [e2, e, nI_1]; exact L
theorem e_from {T : Nat} {x : Int32} (h0 : m 1 0 = nI T) (hT : T ≤ 20) (h : k (fromF (m 1) x T) m) : wX10_onWayFrom k m x :=
  ⟨T + 1, e_from_l h0 hT T 0 (T + 1) (by omega) (by omega) h⟩
theorem e_way_l {T : Nat} (h0 : m 1 0 = nI T) (hT : T ≤ 20) : ∀ (d i n : Nat), i + d = T → d < n → k (wayF (m 1) T) m → wX10_onWay_b4 k n m (wayF (m 1) i) (nI i) := by
  intro d
  induction d with
  | zero =>
    intro i n hi hn h
    obtain ⟨n, rfl⟩ : ∃ m, n = m + 1 := ⟨n - 1, by omega⟩
    unfold wX10_onWay_b4
    refine pk_le T i (fun _ => ?_) (fun c => by omega) h0 rfl (by omega) (by omega)
    rw [show i = T from by omega]; exact h
  | succ d ih =>
    intro i n hi hn h
    obtain ⟨n, rfl⟩ : ∃ m, n = m + 1 := ⟨n - 1, by omega⟩
    unfold wX10_onWay_b4 wX10_onWay_b29
    refine pk_le T i (fun c => by omega) (fun _ => ?_) h0 rfl (by omega) (by omega)
    have L := ih (i + 1) n (by omega) (by omega) h
    rw [wayF] at L
    refine e_truckOf i 0 (by omega) ⟨fun c y e y2 e2 => ?_, fun c y e y2 e2 => ?_⟩
    · rw [if_pos (show m 1 (58 + 4 * i) ≤ 0 from c)] at L; rw [e2, e, nI_1]; exact L
    · rw [if_neg (show ¬ m 1 (58 + 4 * i) ≤ 0 from c)] at L; rw [e2, e, nI_1]; exact L
theorem e_way {T : Nat} (h0 : m 1 0 = nI T) (hT : T ≤ 20) (h : k (wayF (m 1) T) m) : wX10_onWay k m :=
  ⟨T + 1, e_way_l h0 hT T 0 (T + 1) (by omega) (by omega) h⟩
theorem e_front_l : ∀ (d i n : Nat), i + d = 9 → d < n → k (frontF (m 1) 9) m → wX10_inFront_b4 k n m (frontF (m 1) i) (nI (i + 1)) := by
  intro d
  induction d with
  | zero =>
    intro i n hi hn h
    obtain ⟨n, rfl⟩ : ∃ m, n = m + 1 := ⟨n - 1, by omega⟩
    unfold wX10_inFront_b4
    refine pk_le 10 (i + 1) (fun _ => ?_) (fun c => by omega) rfl rfl (by omega) (by omega)
    rw [show i = 9 from by omega]; exact h
  | succ d ih =>
    intro i n hi hn h
    obtain ⟨n, rfl⟩ : ∃ m, n = m + 1 := ⟨n - 1, by omega⟩
    unfold wX10_inFront_b4
    refine pk_le 10 (i + 1) (fun c => by omega) (fun _ => ?_) rfl rfl (by omega) (by omega)
    have L := ih (i + 1) n (by omega) (by omega) h
    rw [frontF] at L
    rw [ix16, nI_clamp (by omega)]
    refine ⟨vp_in_nI (by omega) (by omega), fun y e y2 e2 => ?_⟩
    rw [e2, e, nI_1]; exact L
theorem e_front (h : k (frontF (m 1) 9) m) : wX10_inFront k m := ⟨10, e_front_l 9 0 10 (by omega) (by omega) h⟩
theorem e_ofFace {T F : Nat} {x w : Int32} (h : MM m v u L sl S n pd) (h0 : v 0 = nI T) (hT : T ≤ 20) (h7 : v 7 = nI F) (hF : F ≤ 8) (hr : (¬ ∃ j, j < F ∧ x = nI j) → ∀ r, MM r v u L sl S n pd → k (-1) r)
    (hk : ∀ j, j < F → x = nI j → ∀ r, MM r v u L sl S n pd → k (ofFaceR v j w) r) : wX10_ofFace k m x w := by
  unfold wX10_ofFace
  intro q1 e1
  have h1 := h.th 0
  rw [← e1] at h1
  have hv := h1.1
  have cT : nn (v 0) = T := by rw [h0]; exact nI_clamp (by omega)
  rw [hv, h7]
  refine e_inC (fun c => ⟨fun _ => ?_, fun z => absurd z (by decide)⟩) (fun c => ⟨fun z => absurd rfl z, fun _ => hr (fun z => c ((isIn_n (by omega)).mpr z)) q1 h1⟩)
  obtain ⟨j, hj, e⟩ := (isIn_n (by omega)).mp c
  have K := hk j hj e q1 h1
  unfold ofFaceR at K
  rw [cT] at K
  rw [e]
  refine ⟨fun c0 => ?_, fun c0 => ?_, fun c0 => ?_, fun c0 => ?_, fun c0 => ?_, fun c0 c1 c2 c3 c4 => ?_⟩
  · rw [if_pos c0] at K; exact e_faceOf j 0 (by omega) (by rw [hv]; exact K)
  · subst c0; rw [if_neg (by decide), if_pos rfl] at K; exact e_faceOf j 1 (by omega) (by rw [hv, show 26 + 4 * j + 1 = 27 + 4 * j from by omega]; exact K)
  · subst c0; rw [if_neg (by decide), if_neg (by decide), if_pos rfl] at K; exact e_faceOf j 2 (by omega) (by rw [hv, show 26 + 4 * j + 2 = 28 + 4 * j from by omega]; exact K)
  · subst c0; rw [if_neg (by decide), if_neg (by decide), if_neg (by decide), if_pos rfl] at K; exact e_from (T := T) (by rw [hv]; exact h0) hT (by rw [hv]; exact K)
  · subst c0; rw [if_neg (by decide), if_neg (by decide), if_neg (by decide), if_neg (by decide), if_pos rfl] at K; exact e_faceOf j 3 (by omega) (by rw [hv, show 26 + 4 * j + 3 = 29 + 4 * j from by omega]; exact K)
  · rw [if_neg c0, if_neg c1, if_neg c2, if_neg c3, if_neg c4] at K; exact K
theorem isIn_small {x : Int32} {N : Nat} (hN : N < 2 ^ 30) (h : isIn x 0 (nI N)) : ∃ j : Nat, j ≤ N ∧ x = nI j := by
  unfold isIn at h
  rw [lt_I, lt_I, nI_toInt (by omega), show ((0 : Int32)).toInt = 0 from by decide] at h
  obtain ⟨j, hj, e⟩ := nI_of (x := x) (by rw [lt_I, show ((0 : Int32)).toInt = 0 from by decide]; omega)
  subst e
  rw [nI_toInt hj] at h
  exact ⟨j, by omega, rfl⟩
theorem e_truck {T : Nat} {x w : Int32} (h : MM m v u L sl S n pd) (h0 : v 0 = nI T) (hT : T ≤ 20) (hr : (¬ ∃ j, j < T ∧ x = nI j) → ∀ r, MM r v u L sl S n pd → k (-1) r)
    (hk : ∀ t, t < T → x = nI t → ∀ r, MM r v u L sl S n pd → k (truckR v t w) r) : wX10_truck k m x w := by
  unfold wX10_truck
  intro q1 e1
  have h1 := h.th 0
  rw [← e1] at h1
  have hv := h1.1
  rw [hv, h0]
  refine e_inC (fun c => ⟨fun _ => ?_, fun z => absurd z (by decide)⟩) (fun c => ⟨fun z => absurd rfl z, fun _ => hr (fun z => c ((isIn_n (by omega)).mpr z)) q1 h1⟩)
  obtain ⟨t, ht, e⟩ := (isIn_n (by omega)).mp c
  have K := hk t ht e q1 h1
  unfold truckR at K
  rw [e]
  refine e_inC (fun cw => ⟨fun _ => ?_, fun z => absurd z (by decide)⟩) (fun cw => ⟨fun z => absurd rfl z, fun _ => by rw [if_pos cw] at K; exact K⟩)
  rw [if_neg (fun z => z cw)] at K
  obtain ⟨j, hj, ej⟩ := isIn_small (N := 3) (by omega) cw
  have cj : nn w = j := by rw [ej]; exact nI_clamp (by omega)
  have last : (if w = 0 then v (58 + 4 * t) - 1 else v (58 + 4 * t + nn w)) = (if w = 0 then v (58 + 4 * t) - 1 else v (58 + 4 * t + nn w)) → ¬ (¬ 3 ≤ w ∧ v (58 + 4 * t) = 0) → wX10_truck_b52 k q1 (nI t) w := by
    intro _ hn
    rw [if_neg hn] at K
    unfold wX10_truck_b52 wX10_truck_b73
    refine ⟨fun c0 => ?_, fun c0 => ?_⟩
    · rw [if_neg c0, cj] at K; rw [ej]; exact e_truckOf t j (by omega) (by rw [hv]; exact K)
    · rw [if_pos c0] at K; exact e_truckOf t 0 (by omega) (by rw [hv]; exact K)
  refine ⟨fun c3 => last rfl (fun z => z.1 c3), fun c3 => e_truckOf t 0 (by omega) ⟨fun cz => last rfl (fun z => cz (by rw [hv]; exact z.2)), fun cz => ?_⟩⟩
  rw [hv] at cz
  rw [if_pos ⟨c3, cz⟩] at K
  exact K
theorem e_ofContract {C T F N : Nat} {x w : Int32} (h : MM m v u L sl S n pd) (hI : Inv v T F C N) (hN : N ≤ 500000) (hr : (¬ ∃ j, j < C ∧ x = nI j) → ∀ r, MM r v u L sl S n pd → k (-1) r)
    (hk : ∀ c, c < C → x = nI c → ∀ r, MM r v u L sl S n pd → k (ofConR v c w) r) : wX10_ofContract k m x w := by
  obtain ⟨h8, hC, hcn⟩ := hI.2.2.2.1
  unfold wX10_ofContract wX10_ofContract_b83
  intro q1 e1
  have h1 := h.th 0
  rw [← e1] at h1
  have hv := h1.1
  refine e_isContract (fun c => ⟨fun _ => ?_, fun z => absurd z (by decide)⟩) (fun c => ⟨fun z => absurd rfl z, fun _ => hr (fun z => c (by rw [hv, h8]; exact (isIn_n (by omega)).mpr z)) q1 h1⟩)
  rw [hv, h8] at c
  obtain ⟨j, hj, e⟩ := (isIn_n (by omega)).mp c
  have K := hk j hj e
  unfold ofConR at K
  rw [e]
  refine e_inC (fun cw => ⟨fun _ => ⟨fun c6 => ?_, fun c6 => ?_⟩, fun z => absurd z (by decide)⟩) (fun cw => ⟨fun z => absurd rfl z, fun _ => by have K := K q1 h1; rw [if_pos cw] at K; exact K⟩)
  · rw [if_neg (fun z => z cw), if_neg (fun z => z c6)] at K
    obtain ⟨t, a, b, e', f, p, hh⟩ := hcn j hj
    obtain ⟨b0, b1, b2, hB, -⟩ := hI.bins hN
    refine e_reason (by omega) (by rw [hv]; exact hh) (by rw [hv]; exact hB) (fun hr0 => ?_) (fun hr0 => ?_)
    · rw [hv] at hr0 ⊢
      have hb := h1.fr (Fr.bl q1 (fineF v j) (coarseF v j)) ((bl_1 q1 _ _).trans hv)
      have K := K _ hb
      rw [bl_9, bl_10]
      rw [hr0] at K
      refine ⟨fun c7 => ⟨fun _ => ⟨fun c8 => ?_, fun c8 => ?_⟩, fun z => absurd rfl z⟩, fun c7 => ?_⟩
      · rw [if_neg c7, if_neg (fun z => z rfl), if_neg c8] at K; exact K
      · rw [if_neg c7, if_neg (fun z => z rfl), if_pos c8] at K; exact K
      · rw [if_pos c7] at K; exact K
    · rw [hv] at hr0 ⊢
      have K := K q1 h1
      refine ⟨fun c7 => ⟨fun z => absurd z hr0, fun _ => ?_⟩, fun c7 => ?_⟩
      · rw [if_neg c7, if_pos hr0] at K; exact K
      · rw [if_pos c7] at K; exact K
  · have K := K q1 h1
    rw [if_neg (fun z => z cw), if_pos c6] at K
    obtain ⟨i, hi, ei⟩ := isIn_small (N := 8) (by omega) cw
    have hi6 : i < 6 := by
      rw [le_I, ei, nI_toInt (by omega), show ((6 : Int32)).toInt = 6 from by decide] at c6; omega
    have ci : nn w = i := by rw [ei]; exact nI_clamp (by omega)
    rw [ci] at K
    rw [ei]
    exact e_asks j i (by omega) (by rw [hv]; exact K)
theorem e_bin {x : Int32} (h : MM m v u L sl S n pd) (hr : ¬ isIn x 0 2 → ∀ r, MM r v u L sl S n pd → k (-1) r)
    (hk : ∀ j, j ≤ 2 → x = nI j → ∀ r, MM r v u L sl S n pd → k (v (14 + j)) r) : wX10_bin k m x := by
  unfold wX10_bin wX10_bin_b27
  intro q1 e1
  have h1 := h.th 0
  rw [← e1] at h1
  have hv := h1.1
  refine e_inC (fun c => ⟨fun z => absurd z (by decide), fun _ => ?_⟩) (fun c => ⟨fun _ => hr c q1 h1, fun z => absurd rfl z⟩)
  obtain ⟨j, hj, e⟩ := isIn_small (N := 2) (by omega) c
  rw [e, ix14, nI_clamp (by omega), hv]
  exact ⟨vp_in_nI (by omega) (by omega), hk j hj e q1 h1⟩
theorem e_waiting {x : Int32} (h : MM m v u L sl S n pd) (hr : ¬ isIn x 1 9 → ∀ r, MM r v u L sl S n pd → k (-1) r)
    (hk : ∀ j, 1 ≤ j → j ≤ 9 → x = nI j → ∀ r, MM r v u L sl S n pd → k (v (16 + j)) r) : wX10_waiting k m x := by
  unfold wX10_waiting wX10_waiting_b28
  intro q1 e1
  have h1 := h.th 0
  rw [← e1] at h1
  have hv := h1.1
  refine e_inC (fun c => ⟨fun z => absurd z (by decide), fun _ => ?_⟩) (fun c => ⟨fun _ => hr c q1 h1, fun z => absurd rfl z⟩)
  have c' : isIn x 0 9 := by
    unfold isIn at c ⊢
    rw [lt_I, lt_I, show ((1 : Int32)).toInt = 1 from by decide, show ((9 : Int32)).toInt = 9 from by decide] at c
    rw [lt_I, lt_I, show ((0 : Int32)).toInt = 0 from by decide, show ((9 : Int32)).toInt = 9 from by decide]; omega
  obtain ⟨j, hj, e⟩ := isIn_small (N := 9) (by omega) c'
  have hj1 : 1 ≤ j := by
    unfold isIn at c
    rw [lt_I, lt_I, e, nI_toInt (by omega), show ((1 : Int32)).toInt = 1 from by decide] at c; omega
  rw [e, ix16, nI_clamp (by omega), hv]
  exact ⟨vp_in_nI (by omega) (by omega), hk j hj1 hj e q1 h1⟩
theorem e_count {T : Nat} {w : Int32} (h : MM m v u L sl S n pd) (h0 : v 0 = nI T) (hT : T ≤ 20) (hk : ∀ r, MM r v u L sl S n pd → k (countR v n u w) r) : wX10_count k m w := by
  unfold wX10_count
  intro q1 e1
  have h1 := h.th 0
  rw [← e1] at h1
  have hv := h1.1
  have hn := h1.2.2.2.2.2.2.1
  have hu := h1.2.1
  have cT : nn (v 0) = T := by rw [h0]; exact nI_clamp (by omega)
  have K := hk q1 h1
  unfold countR at K
  rw [cT] at K
  have mid : isIn w 11 16 → k (v (nn (w - 11))) q1 → wX10_count_b185 k q1 w := by
    intro c K2
    unfold wX10_count_b185 wX10_count_b210
    refine e_inC (fun _ => ⟨fun z => absurd z (by decide), fun _ => ?_⟩) (fun z => absurd c z)
    rw [hv]
    refine ⟨?_, K2⟩
    unfold isIn at c
    rw [lt_I, lt_I, show ((11 : Int32)).toInt = 11 from by decide, show ((16 : Int32)).toInt = 16 from by decide] at c
    rw [vp_in_iff, fb_subI (by rw [show ((11 : Int32)).toInt = 11 from by decide]; omega) (by rw [show ((11 : Int32)).toInt = 11 from by decide]; omega), show ((11 : Int32)).toInt = 11 from by decide]
    omega
  refine ⟨fun c => ?_, fun c => ?_, fun c => ?_, fun c => ?_, fun c => ?_, fun c => ?_, fun c => ?_, fun c => ?_, fun c => ?_, fun c => ?_, fun c => ?_, fun c => ?_, fun c => ?_, fun c => ?_, fun c => ?_, fun c => ?_, fun c => ?_, fun c => ?_, fun c => ?_, fun c0 c1 c2 c3 c4 c5 c6 c7 c8 c9 c10 c11 c12 c13 c14 c15 c16 c17 c18 => ?_⟩
  · rw [if_pos c] at K; rw [hv]; exact K
  · subst c; rw [hv]; exact K
  · subst c; rw [hv]; exact K
  · subst c; exact e_way (T := T) (by rw [hv]; exact h0) hT (by rw [hv]; exact K)
  · subst c; exact e_front (by rw [hv]; exact K)
  · subst c; rw [hv]; exact K
  · subst c; rw [hv]; exact K
  · subst c; exact e_capacity (by rw [hv]; exact K)
  · subst c; rw [hv]; exact K
  · subst c; rw [hv]; exact K
  · subst c; rw [hv]; exact K
  · subst c; exact mid (by decide) K
  · subst c; exact mid (by decide) K
  · subst c; exact mid (by decide) K
  · subst c; exact mid (by decide) K
  · subst c; exact mid (by decide) K
  · subst c; exact mid (by decide) K
  · subst c; rw [hn]; exact K
  · subst c; rw [hu]; exact K
  · rw [if_neg c0, if_neg c1, if_neg c2, if_neg c3, if_neg c4, if_neg c5, if_neg c6, if_neg c7, if_neg c8, if_neg c9, if_neg c10] at K
    by_cases ci : isIn w 11 16
    · rw [if_pos ci] at K; exact mid ci K
    · rw [if_neg ci, if_neg c17, if_neg c18] at K
      unfold wX10_count_b185 wX10_count_b210
      exact e_inC (fun z => absurd z ci) (fun _ => ⟨fun _ => K, fun z => absurd rfl z⟩)
end MG
