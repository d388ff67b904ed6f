/-! ===== the reference: what if; undo, slots ===== -/
theorem drop_hi {v : vS} {c C j : Nat} (h8 : v 8 = nI C) (hC : 1 ≤ C) (hC2 : C ≤ 12) (hc : c < C) (hj : 210 ≤ j) : dropF v c j = v j := by
  have cc : nn (v 8) - 1 = C - 1 := by rw [h8]; unfold nn; rw [nI_clamp (by omega)]
  unfold dropF
  rw [cc, if_neg (by omega), if_neg (by omega), if_neg (by omega)]
theorem deliver_hi {v : vS} {c C j : Nat} (h8 : v 8 = nI C) (hC : 1 ≤ C) (hC2 : C ≤ 12) (hc : c < C) (hj : 210 ≤ j) : deliverF v c j = v j := by
  unfold deliverF
  rw [drop_hi (C := C) (by rw [upd_n (by omega), upd_n (by omega), upd_n (by omega), upd_n (by omega), upd_n (by omega)]; exact h8) hC hC2 hc hj, upd_n (by omega), upd_n (by omega), upd_n (by omega), upd_n (by omega), upd_n (by omega)]
theorem deliverL_hi {T F N : Nat} (hN : N ≤ 500000) : ∀ (d c C : Nat) (v : vS), Inv v T F C N → c + d = C → ∀ j, 210 ≤ j → deliverL d c v j = v j
  | 0, _, _, _, _, _ => fun _ _ => rfl
  | d + 1, c, C, v, hv, h => by
    intro j hj
    unfold deliverL
    split
    · rename_i hr
      obtain ⟨C, rfl⟩ : ∃ m, C = m + 1 := ⟨C - 1, by omega⟩
      rw [deliverL_hi hN d c C _ (hv.deliver (c := c) (by omega) hN hr) (by omega) j hj, deliver_hi (C := C + 1) hv.2.2.2.1.1 (by omega) hv.2.2.2.1.2.1 (by omega) hj]
    · exact deliverL_hi hN d (c + 1) C v hv (by omega) j hj
theorem days_hi {T F H : Nat} (hH24 : H ≤ 24) : ∀ (n : Nat) (v : vS) (C N : Nat), Inv v T F C N → v 2 = nI H → N + 29 * H * n ≤ 500000 → ∀ j, 210 ≤ j → daysF n v j = v j
  | 0, _, _, _, _, _, _ => fun _ _ => rfl
  | n + 1, v, C, N, hv, hH, hN => by
    intro j hj
    have e1 : 29 * H * (n + 1) = 29 * H + 29 * H * n := by rw [Nat.mul_add, Nat.mul_one]; omega
    obtain ⟨C2, h1, h2, h3, h4, h5⟩ := hv.day hH hH24 (by omega)
    obtain ⟨a1, a2, -⟩ := Inv.hours H v N hv (by omega)
    unfold daysF
    rw [days_hi hH24 n _ C2 _ h2 (by rw [h3 2 (by omega)]; exact hH) (by omega) j hj, h5, deliverL_hi (by omega) C 0 C _ a1 (by omega) j hj, a2 j (by omega) (by omega)]
/-- the days run on a copy: the reference puts the numbers aside and takes them back -/
def thenR (v : vS) (D : Nat) (w : Int32) : Int32 := if w = 0 then daysF D v 11 - v 11 else daysF D v 12 - daysF D v 13 - (v 12 - v 13) + 1000000
section MW
variable {m : qS} {v : vS} {u : Nat} {L : Nat → vS} {sl : Nat → Int32} {S : Nat → vS} {n : Nat} {pd : Nat → Int32} {k : Int32 → qS → Prop}
/-- a row besides the recorded ones -/
theorem MM.as (h : MM m v u L sl S n pd) (f : Nat → Int32) : MM (upA m 2 f) v u L sl S n pd := by
  obtain ⟨a1, a2, a3, a4, a5, a6, a7, a8, a9⟩ := h
  exact ⟨by rw [upA_n (by decide)]; exact a1, by rw [upA_n (by decide)]; exact a2, a3, by rw [upA_n (by decide)]; exact a4, by rw [upA_n (by decide)]; exact a5, by rw [upA_n (by decide)]; exact a6, by rw [upA_n (by decide)]; exact a7, a8, by rw [upA_n (by decide)]; exact a9⟩
theorem e_aside {k : qS → Prop} (h : MM m v u L sl S n pd) (hk : ∀ r, MM r v u L sl S n pd → (∀ j, j < 210 → r 2 j = v j) → k r) : wX10_putAside k m := by
  refine e_putAside (hk _ (h.as _) (fun j hj => ?_))
  rw [upA_s, h.1, if_pos hj]
theorem e_back {k : qS → Prop} {w : vS} (h : MM m w u L sl S n pd) (h2 : ∀ j, j < 210 → m 2 j = v j) (hw : ∀ j, 210 ≤ j → w j = v j) (hk : ∀ r, MM r v u L sl S n pd → r 2 = m 2 → k r) : wX10_takeBack k m := by
  have e : (fun j => if j < 210 then m 2 j else m 1 j) = v := by
    funext j
    by_cases c : j < 210
    · rw [if_pos c]; exact h2 j c
    · rw [if_neg c, h.1]; exact hw j (by omega)
  refine e_takeBack ?_
  rw [e]
  exact hk _ h.v (upA_n (by decide))
theorem e_then {x w : Int32} (h : MM m v u L sl S n pd) (hg : GI v) (hr : ¬ (isIn x 1 30 ∧ isIn w 0 1) → ∀ r, MM r v u L sl S n pd → k (-2) r)
    (hk : isIn w 0 1 → ∀ D : Nat, 1 ≤ D → D ≤ 30 → x = nI D → ∀ r, MM r v u L sl S n pd → k (thenR v D w) r) : wX10_then k m x w := by
  unfold wX10_then wX10_then_b24 wX10_then_b91
  intro q1 e1
  have h1 := h.th 0
  rw [← e1] at h1
  refine e_inC (fun c => ⟨fun z => absurd z (by decide), fun _ => e_inC (fun c2 => ⟨fun _ => ?_, fun z => absurd z (by decide)⟩) (fun c2 => ⟨fun z => absurd rfl z, fun _ => hr (fun z => c2 z.2) q1 h1⟩)⟩) (fun c => ⟨fun _ => hr (fun z => c z.1) q1 h1, fun z => absurd rfl z⟩)
  obtain ⟨D, D1, D30, eD⟩ := isIn_30 c
  obtain ⟨T, F, C, hrs, H, hI, h6, hh, hH2, H1, H24⟩ := hg
  have hHD : H * D ≤ 24 * 30 := Nat.mul_le_mul H24 D30
  have e29 : 29 * H * D = 29 * (H * D) := Nat.mul_assoc _ _ _
  refine e_aside h1 (fun r2 hr2 ha => ?_)
  intro y6 e6
  have hv2 := hr2.1
  rw [eD]
  refine e_days (T := T) (F := F) (C := C) (N := 29 * hrs) (H := H) (by rw [hv2]; exact hI) (by rw [hv2]; exact hH2) H24 D30 (by omega) (fun r3 hF hr3 => ?_)
  rw [hv2] at hr3
  intro y9 e9
  refine e_back (w := daysF D v) (hr2.fr hF hr3) (fun j hj => by rw [hF.1 2 (by decide) (by decide)]; exact ha j hj) (days_hi H24 D v C _ hI hH2 (by omega)) (fun r4 hr4 _ => ?_)
  have K := hk c2 D D1 D30 eD r4 hr4
  unfold thenR at K
  rw [e9, e6, hr3, hv2]
  refine ⟨fun c0 => ?_, fun c0 => ?_⟩
  · rw [if_neg c0] at K; exact K
  · rw [if_pos c0] at K; exact K
/-- the best gap so far and what it pays, of the first g gaps -/
def bestF (v : vS) (D : Nat) : Nat → Int32 × Int32
  | 0 => (0, -6)
  | g + 1 => if daysF D (upd v 3 (nI (g + 1))) 12 - v 12 ≤ (bestF v D g).2 then bestF v D g else (nI (g + 1), daysF D (upd v 3 (nI (g + 1))) 12 - v 12)
theorem GI_gap {v : vS} {T F C N g : Nat} (hI : Inv v T F C N) (h1 : 1 ≤ g) (h9 : g ≤ 9) : Inv (upd v 3 (nI g)) T F C N := by
  obtain ⟨a1, a2, a3, a4, a5, a6⟩ := hI
  obtain ⟨Lo, H, g0, kk, o, s1, s1', s2, s2', s3, s3', s4, s4', s5, s5'⟩ := a2
  exact ⟨a1.keep (upd_n (by omega)) (upd_n (by omega)) (fun j _ _ => upd_n (by omega)), ⟨Lo, H, g, kk, o, by rw [upd_n (by omega)]; exact s1, s1', by rw [upd_n (by omega)]; exact s2, s2', upd_s, ⟨h1, h9⟩, by rw [upd_n (by omega)]; exact s4, s4', by rw [upd_n (by omega)]; exact s5, s5'⟩, a3.keep (upd_n (by omega)) (fun j _ _ => upd_n (by omega)), a4.keep (upd_n (by omega)) (fun j _ _ => upd_n (by omega)), a5.keep a1.2.2.2.1 (fun j _ _ => upd_n (by omega)), a6.keep (fun j _ _ => upd_n (by omega))⟩
theorem e_best_l {T F C hrs H D : Nat} {w : Int32} (hI : Inv v T F C (29 * hrs)) (hh : hrs ≤ 9999) (hH2 : v 2 = nI H) (H24 : H ≤ 24) (D30 : D ≤ 30) : ∀ (d g nf : Nat) (q : qS), MM q v u L sl S n pd → (∀ j, j < 210 → q 2 j = v j) → g + d = 9 → d < nf → (∀ r, MM r v u L sl S n pd → k (if w = 0 then (bestF v D 9).1 else (bestF v D 9).2) r) → wX10_bestGap_b40 k nf q (nI D) w (bestF v D g).1 (bestF v D g).2 (nI (g + 1)) := by
  intro d
  induction d with
  | zero =>
    intro g nf q hq ha hg hn h
    obtain ⟨nf, rfl⟩ : ∃ m, nf = m + 1 := ⟨nf - 1, by omega⟩
    obtain rfl : g = 9 := by omega
    unfold wX10_bestGap_b40 wX10_bestGap_b132
    have K := h q hq
    refine pk_le 10 10 (fun _ => ⟨fun c => ?_, fun c => ?_⟩) (fun c => by omega) rfl rfl (by omega) (by omega)
    · rw [if_neg c] at K; exact K
    · rw [if_pos c] at K; exact K
  | succ d ih =>
    intro g nf q hq ha hg hn h
    obtain ⟨nf, rfl⟩ : ∃ m, nf = m + 1 := ⟨nf - 1, by omega⟩
    have hHD : H * D ≤ 24 * 30 := Nat.mul_le_mul H24 D30
    have e29 : 29 * H * D = 29 * (H * D) := Nat.mul_assoc _ _ _
    unfold wX10_bestGap_b40 wX10_bestGap_b99 wX10_bestGap_b114
    refine pk_le 10 (g + 1) (fun c => by omega) (fun _ => ?_) rfl rfl (by omega) (by omega)
    intro y2 e2 q3 e3
    have hI2 := GI_gap hI (g := g + 1) (by omega) (by omega)
    have hH3 : upd v 3 (nI (g + 1)) 2 = nI H := by rw [upd_n (by omega)]; exact hH2
    have hv3 : q3 1 = upd v 3 (nI (g + 1)) := by rw [e3, up2_A, upA_s, hq.1]
    have hq3 : MM q3 (upd v 3 (nI (g + 1))) u L sl S n pd := by rw [e3, up2_A, hq.1]; exact hq.v
    refine e_days (T := T) (F := F) (C := C) (N := 29 * hrs) (H := H) (by rw [hv3]; exact hI2) (by rw [hv3]; exact hH3) H24 D30 (by omega) (fun r3 hF hr3 => ?_)
    rw [hv3] at hr3
    intro y6 e6
    refine e_back (w := daysF D (upd v 3 (nI (g + 1)))) (v := v) (hq3.fr hF hr3) (fun j hj => by rw [hF.1 2 (by decide) (by decide), e3, up2_A, upA_n (by decide)]; exact ha j hj) (fun j hj => by rw [days_hi H24 D _ C _ hI2 hH3 (by omega) j hj, upd_n (by omega)]) (fun r4 hr4 h42 => ?_)
    have L2 := ih (g + 1) nf r4 hr4 (fun j hj => by rw [h42, hF.1 2 (by decide) (by decide), e3, up2_A, upA_n (by decide)]; exact ha j hj) (by omega) (by omega) h
    have ey : y6 = daysF D (upd v 3 (nI (g + 1))) 12 - v 12 := by rw [e6, hr3, e2, hq.1]
    rw [bestF] at L2
    rw [← ey] at L2
    refine ⟨fun c => ⟨fun _ y e => ?_, fun z => absurd c z⟩, fun c => ⟨fun z => absurd z c, fun _ y e => ?_⟩⟩
    · rw [if_pos c] at L2; rw [e, nI_1]; exact L2
    · rw [if_neg c] at L2; rw [e, nI_1]; exact L2
theorem e_bestGap {x w : Int32} (h : MM m v u L sl S n pd) (hg : GI v) (hr : ¬ (isIn x 1 30 ∧ isIn w 0 1) → ∀ r, MM r v u L sl S n pd → k (-2) r)
    (hk : isIn w 0 1 → ∀ D : Nat, 1 ≤ D → D ≤ 30 → x = nI D → ∀ r, MM r v u L sl S n pd → k (if w = 0 then (bestF v D 9).1 else (bestF v D 9).2) r) : wX10_bestGap k m x w := by
  unfold wX10_bestGap wX10_bestGap_b24
  intro q1 e1
  have h1 := h.th 0
  rw [← e1] at h1
  refine e_inC (fun c => ⟨fun z => absurd z (by decide), fun _ => e_inC (fun c2 => ⟨fun _ => ?_, fun z => absurd z (by decide)⟩) (fun c2 => ⟨fun z => absurd rfl z, fun _ => hr (fun z => c2 z.2) q1 h1⟩)⟩) (fun c => ⟨fun _ => hr (fun z => c z.1) q1 h1, fun z => absurd rfl z⟩)
  obtain ⟨D, D1, D30, eD⟩ := isIn_30 c
  obtain ⟨T, F, C, hrs, H, hI, h6, hh, hH2, H1, H24⟩ := hg
  refine e_aside h1 (fun r2 hr2 ha => ⟨10, ?_⟩)
  rw [eD]
  exact e_best_l hI hh hH2 H24 D30 9 0 10 r2 hr2 ha (by omega) (by omega) (hk c2 D D1 D30 eD)
end MW
