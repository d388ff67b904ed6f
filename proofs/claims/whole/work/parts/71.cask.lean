/-! ===== the class: what there is ===== -/
section CA
variable {q o d tq : qS} {zs : Nat → qS} {v : vS} {T F C N : Nat} {k : Int32 → qS → qS → qS → qS → (Nat → qS) → Prop}
theorem c_XofFace {x w : Int32} (hQ : RQ q v F C) (hI : Inv v T F C N) (hr : (¬ ∃ j, j < F ∧ x = nI j) → k (-1) q o d tq zs)
    (hk : ∀ j, j < F → x = nI j → k (ofFaceR v j w) q o d tq zs) : wX9_ofFace k q o d tq zs x w := by
  have hF8 := hI.1.2.2.2.1
  have hT := hI.1.2.1
  have cT : nn (v 0) = T := by rw [hI.1.1]; exact nI_clamp (by omega)
  unfold wX9_ofFace
  refine c_hasF (by rw [hQ.2.1.2.1]; exact hI.1.2.2.1) hF8 (fun c => ⟨fun _ => ?_, fun z => absurd z (by decide)⟩) (fun c => ⟨fun z => absurd rfl z, fun _ => hr c⟩)
  obtain ⟨j, hj, e⟩ := c
  have K := hk j hj e
  unfold ofFaceR at K
  rw [cT] at K
  have vj : vp_in (nI j) 8 := vp_in_nI (by omega) (by omega)
  have cj : Int32.toNatClampNeg (nI j) = j := nI_clamp (by omega)
  obtain ⟨a2, a4, a5, a3⟩ := hQ.2.2.2.1 j hj
  rw [e, cj, a2, a3, a4, a5]
  refine ⟨fun c => ⟨vj, ?_⟩, fun c => ⟨vj, ?_⟩, fun c => ⟨vj, ?_⟩, fun c => ?_, fun c => ⟨vj, ?_⟩, fun c0 c1 c2 c3 c4 => ?_⟩
  · rw [if_pos c] at K; exact K
  · subst c; exact K
  · subst c; exact K
  · subst c; exact c_awayFrom hQ.2.2.2.2.1 hI.1 hI.2.2.2.2.2 hj K
  · subst c; exact K
  · rw [if_neg c0, if_neg c1, if_neg c2, if_neg c3, if_neg c4] at K; exact K
theorem c_Xtruck {x w : Int32} (hQ : RQ q v F C) (hI : Inv v T F C N) (hr : (¬ ∃ j, j < T ∧ x = nI j) → k (-1) q o d tq zs)
    (hk : ∀ t, t < T → x = nI t → k (truckR v t w) q o d tq zs) : wX9_truck k q o d tq zs x w := by
  have hT := hI.1.2.1
  have e0 : q 1 0 = nI T := by rw [hQ.1 0 (by omega)]; exact hI.1.1
  unfold wX9_truck wX9_truck_b29 wX9_truck_b92 wX9_truck_b109 wX9_truck_b126
  rw [e0]
  refine c_in (fun c => ⟨fun z => absurd z (by decide), fun _ => ?_⟩) (fun c => ⟨fun _ => hr (fun z => c ((isIn_n (by omega)).mpr z)), fun z => absurd rfl z⟩)
  obtain ⟨t, ht, e⟩ := (isIn_n (by omega)).mp c
  subst e
  refine c_in (fun c2 => ⟨fun _ => ?_, fun z => absurd z (by decide)⟩) (fun c2 => absurd (isIn_nI (a := 0) (b := 19) (by omega) (by omega) (by omega) (by omega)) c2)
  have K := hk t ht rfl
  unfold truckR at K
  have vt : vp_in (nI t) 20 := vp_in_nI (by omega) (by omega)
  have ct : Int32.toNatClampNeg (nI t) = t := nI_clamp (by omega)
  obtain ⟨b9, b0, b1⟩ := hQ.2.2.2.2.1 t (by omega)
  rw [ct]
  have other : ¬ w = 0 → ¬ w = 1 → ¬ w = 2 → ¬ w = 3 → ¬ isIn w 0 3 := by
    intro c0 c1 c2 c3 z
    obtain ⟨j, hj, e⟩ := isIn_small (N := 3) (by omega) z
    rcases (show j = 0 ∨ j = 1 ∨ j = 2 ∨ j = 3 by omega) with rfl | rfl | rfl | rfl
    · exact c0 e
    · exact c1 e
    · exact c2 e
    · exact c3 e
  refine c_isAway hQ.2.2.2.2.1 hI.1 (by omega) (fun z => ?_) (fun z => ?_)
  · refine ⟨fun c => ⟨fun _ => ?_, fun y => absurd rfl y⟩, fun c => ⟨fun _ => ?_, fun y => absurd rfl y⟩, fun c => ⟨fun _ => ?_, fun y => absurd rfl y⟩, fun c => ⟨vt, ?_⟩, fun c0 c1 c2 c3 => ?_⟩
    · subst c; rw [if_neg (fun y => y (by decide)), if_pos ⟨by decide, z⟩] at K; exact K
    · subst c; rw [if_neg (fun y => y (by decide)), if_pos ⟨by decide, z⟩] at K; exact K
    · subst c; rw [if_neg (fun y => y (by decide)), if_pos ⟨by decide, z⟩] at K; exact K
    · subst c; rw [if_neg (fun y => y (by decide)), if_neg (fun y => y.1 (by decide)), if_neg (by decide), show 58 + 4 * t + nn 3 = 61 + 4 * t from by rw [show nn 3 = 3 from by decide]; omega] at K; rw [b9]; exact K
    · rw [if_pos (other c0 c1 c2 c3)] at K; exact K
  · obtain ⟨b6, b7, b8⟩ := b1 z
    refine ⟨fun c => ⟨fun y => absurd y (by decide), fun _ => ⟨vt, ?_⟩⟩, fun c => ⟨fun y => absurd y (by decide), fun _ => ⟨vt, ?_⟩⟩, fun c => ⟨fun y => absurd y (by decide), fun _ => ⟨vt, ?_⟩⟩, fun c => ⟨vt, ?_⟩, fun c0 c1 c2 c3 => ?_⟩
    · subst c; rw [if_neg (fun y => y (by decide)), if_neg (fun y => z y.2), if_pos rfl] at K; rw [b6]; exact K
    · subst c; rw [if_neg (fun y => y (by decide)), if_neg (fun y => z y.2), if_neg (by decide), show 58 + 4 * t + nn 1 = 59 + 4 * t from by rw [show nn 1 = 1 from by decide]; omega] at K; rw [b7]; exact K
    · subst c; rw [if_neg (fun y => y (by decide)), if_neg (fun y => z y.2), if_neg (by decide), show 58 + 4 * t + nn 2 = 60 + 4 * t from by rw [show nn 2 = 2 from by decide]; omega] at K; rw [b8]; exact K
    · subst c; rw [if_neg (fun y => y (by decide)), if_neg (fun y => z y.2), if_neg (by decide), show 58 + 4 * t + nn 3 = 61 + 4 * t from by rw [show nn 3 = 3 from by decide]; omega] at K; rw [b9]; exact K
    · rw [if_pos (other c0 c1 c2 c3)] at K; exact K
theorem c_XofContract {x w : Int32} (hQ : RQ q v F C) (hI : Inv v T F C N) (hr : (¬ ∃ j, j < C ∧ x = nI j) → k (-1) q o d tq zs)
    (hk : ∀ c, c < C → x = nI c → ∀ r, RQ r v F C → k (ofConR v c w) r o d tq zs) : wX9_ofContract k q o d tq zs x w := by
  have h8 := hI.2.2.2.1.1
  have hC := hI.2.2.2.1.2.1
  have h5 : q 0 5 = nI C := by rw [hQ.2.1.2.2.1]; exact h8
  unfold wX9_ofContract wX9_ofContract_b112 wX9_ofContract_b131
  refine c_hasC h5 hC (fun c => ⟨fun _ => ?_, fun z => absurd z (by decide)⟩) (fun c => ⟨fun z => absurd rfl z, fun _ => hr c⟩)
  obtain ⟨j, hj, e⟩ := c
  have K := hk j hj e
  unfold ofConR at K
  rw [e]
  refine c_in (fun c => ⟨fun z => absurd z (by decide), fun _ => ?_⟩) (fun c => ⟨fun _ => ?_, fun z => absurd rfl z⟩)
  · obtain ⟨i, hi, ei⟩ := isIn_small (N := 5) (by omega) c
    subst ei
    have K := K q hQ
    have ci : nn (nI i) = i := nI_clamp (by omega)
    rw [if_neg (fun z => z (isIn_nI (a := 0) (b := 8) (by omega) (by omega) (by omega) (by omega))), if_pos (fun z => by rw [show (6 : Int32) = nI 6 from rfl, nI_leI (by omega) (by omega)] at z; omega), ci] at K
    refine c_term h5 hC hj i (by omega) ?_
    rw [hQ.2.2.2.2.2 j hj i (by omega)]; exact K
  · refine c_workOut hQ h8 hC hj (fun r hR e15 e8 e13 e14 => ?_)
    have K := K r hR
    rw [e15, e13, e14]
    refine ⟨fun c6 => ?_, fun c7 => ⟨fun y => ?_, fun y => ?_⟩, fun c8 => ⟨fun y => ?_, fun y => ?_⟩, fun c6 c7 c8 => ?_⟩
    · subst c6; rw [if_neg (fun z => z (by decide)), if_neg (fun z => z (by decide)), if_pos rfl] at K; exact K
    · subst c7; rw [if_neg (fun z => z (by decide)), if_neg (fun z => z (by decide)), if_neg (by decide), if_pos y] at K; exact K
    · subst c7; rw [if_neg (fun z => z (by decide)), if_neg (fun z => z (by decide)), if_neg (by decide), if_neg (fun z => z y), if_pos rfl] at K; exact K
    · subst c8; rw [if_neg (fun z => z (by decide)), if_neg (fun z => z (by decide)), if_neg (by decide), if_pos y] at K; exact K
    · subst c8; rw [if_neg (fun z => z (by decide)), if_neg (fun z => z (by decide)), if_neg (by decide), if_neg (fun z => z y), if_neg (by decide)] at K; exact K
    · rw [if_pos] at K
      · exact K
      · intro z
        obtain ⟨i, hi, ei⟩ := isIn_small (N := 8) (by omega) z
        rcases (show i ≤ 5 ∨ i = 6 ∨ i = 7 ∨ i = 8 by omega) with y | rfl | rfl | rfl
        · exact c (by rw [ei]; exact isIn_nI (a := 0) (b := 5) (by omega) (by omega) (by omega) (by omega))
        · exact c6 ei
        · exact c7 ei
        · exact c8 ei
theorem c_Xbin {x : Int32} (hQ : RQ q v F C) (hr : ¬ isIn x 0 2 → k (-1) q o d tq zs) (hk : ∀ j, j ≤ 2 → x = nI j → k (v (14 + j)) q o d tq zs) : wX9_bin k q o d tq zs x := by
  unfold wX9_bin wX9_bin_b25
  refine c_in (fun c => ⟨fun z => absurd z (by decide), fun _ => ?_⟩) (fun c => ⟨fun _ => hr c, fun z => absurd rfl z⟩)
  obtain ⟨j, hj, e⟩ := isIn_small (N := 2) (by omega) c
  have K := hk j hj e
  rw [e, nI_clamp (by omega), hQ.2.2.1.1 j (by omega)]
  exact ⟨vp_in_nI (by omega) (by omega), K⟩
theorem isIn_19 {x : Int32} (c : isIn x 1 9) : ∃ j : Nat, 1 ≤ j ∧ j ≤ 9 ∧ x = nI j := isIn_rng (a := 1) (b := 9) (by omega) (by omega) c
theorem c_Xwaiting {x : Int32} (hQ : RQ q v F C) (hr : ¬ isIn x 1 9 → k (-1) q o d tq zs) (hk : ∀ j, 1 ≤ j → j ≤ 9 → x = nI j → k (v (16 + j)) q o d tq zs) : wX9_waiting k q o d tq zs x := by
  unfold wX9_waiting wX9_waiting_b26
  refine c_in (fun c => ⟨fun z => absurd z (by decide), fun _ => ?_⟩) (fun c => ⟨fun _ => hr c, fun z => absurd rfl z⟩)
  obtain ⟨j, h1, h9, e⟩ := isIn_19 c
  have K := hk j h1 h9 e
  rw [e, nI_clamp (by omega), hQ.2.2.1.2 j h1 h9]
  exact ⟨vp_in_nI (by omega) (by omega), K⟩
theorem c_Xcount {w : Int32} {n u : Nat} (hQ : RQ q v F C) (hI : Inv v T F C N) (hn : d 0 0 = nI n) (hu : o 0 1 = nI u) (hk : k (countR v n u w) q o d tq zs) : wX9_count k q o d tq zs w := by
  have hT := hI.1.2.1
  have cT : nn (v 0) = T := by rw [hI.1.1]; exact nI_clamp (by omega)
  unfold countR at hk
  rw [cT] at hk
  obtain ⟨z0, z4, z5, z7, z6, z1, z2, z3⟩ := hQ.2.1
  unfold wX9_count wX9_count_b250
  rw [z0, z4, z5, z7, z6, z1, z2, z3, hn, hu]
  refine c_in (fun c => ⟨fun z => absurd z (by decide), fun _ => ?_⟩) (fun c => ⟨fun _ => ?_, fun z => absurd rfl z⟩)
  · obtain ⟨j, h1, h9, e⟩ := isIn_rng (a := 11) (b := 16) (by omega) (by omega) c
    subst e
    have ne : ∀ b : Nat, b < 11 → ¬ nI j = nI b := fun b hb e => by rw [nI_eq (by omega) (by omega)] at e; omega
    rw [if_neg (show ¬ nI j = 0 from ne 0 (by omega)), if_neg (show ¬ nI j = 1 from ne 1 (by omega)), if_neg (show ¬ nI j = 2 from ne 2 (by omega)), if_neg (show ¬ nI j = 3 from ne 3 (by omega)), if_neg (show ¬ nI j = 4 from ne 4 (by omega)), if_neg (show ¬ nI j = 5 from ne 5 (by omega)), if_neg (show ¬ nI j = 6 from ne 6 (by omega)), if_neg (show ¬ nI j = 7 from ne 7 (by omega)), if_neg (show ¬ nI j = 8 from ne 8 (by omega)), if_neg (show ¬ nI j = 9 from ne 9 (by omega)), if_neg (show ¬ nI j = 10 from ne 10 (by omega)), if_pos c] at hk
    have ej : nI j - 11 = nI (j - 11) := pk_sub h1
    have cj : nn (nI j - 11) = j - 11 := by rw [ej]; exact nI_clamp (by omega)
    rw [cj] at hk
    rw [ej, nI_clamp (by omega), hQ.1 (j - 11) (by omega)]
    exact ⟨vp_in_nI (by omega) (by omega), hk⟩
  · refine ⟨fun c => ?_, fun c => ?_, fun c => ?_, fun c => ?_, fun c => ?_, fun c => ?_, fun c => ?_, fun c => ?_, fun c => ?_, fun c => ?_, fun c => ?_, fun c2 => ?_, fun c2 => ?_, fun c2 => ?_, fun c2 => ?_, fun c2 => ?_, fun c2 => ?_, fun c => ?_, fun c => ?_, fun c0 c1 c2 c3 c4 c5 c6 c7 c8 c9 c10 c11 c12 c13 c14 c15 c16 c17 c18 => ?_⟩
    · rw [if_pos c] at hk; exact hk
    · subst c; exact hk
    · subst c; exact hk
    · subst c; exact c_awayInAll hQ.2.2.2.2.1 hI.1 hI.2.2.2.2.2 hk
    · subst c; exact c_uncrushed hQ.2.2.1 hk
    · subst c; exact hk
    · subst c; exact hk
    · subst c; exact c_capacity hQ hk
    · subst c; exact hk
    · subst c; exact hk
    · subst c; exact hk
    · subst c2; exact absurd (by decide) c
    · subst c2; exact absurd (by decide) c
    · subst c2; exact absurd (by decide) c
    · subst c2; exact absurd (by decide) c
    · subst c2; exact absurd (by decide) c
    · subst c2; exact absurd (by decide) c
    · subst c; exact hk
    · subst c; exact hk
    · rw [if_neg c0, if_neg c1, if_neg c2, if_neg c3, if_neg c4, if_neg c5, if_neg c6, if_neg c7, if_neg c8, if_neg c9, if_neg c10, if_neg c, if_neg c17, if_neg c18] at hk; exact hk
end CA
