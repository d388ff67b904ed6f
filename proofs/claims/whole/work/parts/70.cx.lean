/-! ===== the class whole: quarry q, own numbers o, pad d, kept quarries zs ===== -/
/-- a quarry that tells the numbers v, and what holds of them between calls -/
def RG (q : qS) (v : vS) : Prop := ∃ T F C hr H : Nat, RQ q v F C ∧ Inv v T F C (29 * hr) ∧ v 6 = nI hr ∧ hr ≤ 9999 ∧ v 2 = nI H ∧ 1 ≤ H ∧ H ≤ 24 ∧ ∀ j, 210 ≤ j → v j = 0
theorem RG.gi {q : qS} {v : vS} (h : RG q v) : GI v := by
  obtain ⟨T, F, C, hr, H, -, h2, h3, h4, h5, h6, h7, -⟩ := h
  exact ⟨T, F, C, hr, H, h2, h3, h4, h5, h6, h7⟩
theorem c_copyG {k : qS → qS → Prop} {q o : qS} {v : vS} (h : RG o v) (hk : ∀ r, RG r v → k r o) : wX6_copyFrom k q o := by
  obtain ⟨T, F, C, hr, H, h1, h2, h3⟩ := h
  exact c_copy h1 h2.1.2.2.2.1 h2.2.2.2.1.2.1 (fun r hr1 => hk r ⟨T, F, C, hr, H, hr1, h2, h3⟩)
def XH (o : qS) (zs : Nat → qS) (P u : Nat) (L : Nat → vS) : Prop := o 0 0 = nI P ∧ P < 7 ∧ o 0 1 = nI u ∧ u ≤ 6 ∧ ∀ i, i < u → RG (zs ((P + 7 - u + i) % 7)) (L i)
def XS (o : qS) (zs : Nat → qS) (sl : Nat → Int32) (S : Nat → vS) : Prop := ∀ s, s < 2 → o 1 s = sl s ∧ (¬ sl s = 0 → RG (zs (7 + s)) (S s))
def XD (d : qS) (n : Nat) (pd : Nat → Int32) : Prop := d 0 0 = nI n ∧ n ≤ 80 ∧ ∀ j, j < n → d 1 j = pd j ∧ ∃ c, 33 ≤ c ∧ c ≤ 126 ∧ pd j = nI c
def XX (q o d : qS) (zs : Nat → qS) (v : vS) (u : Nat) (L : Nat → vS) (sl : Nat → Int32) (S : Nat → vS) (n : Nat) (pd : Nat → Int32) : Prop := RG q v ∧ (∃ P, XH o zs P u L) ∧ XS o zs sl S ∧ XD d n pd
/-- the state laid by: the place behind the kept ones -/
def XP (o : qS) (zs : Nat → qS) (v : vS) (u : Nat) (L : Nat → vS) : Prop := ∃ P, XH o zs P u L ∧ RG (zs P) v
section CX
variable {q o d tq : qS} {zs : Nat → qS} {v : vS} {u : Nat} {L : Nat → vS} {sl : Nat → Int32} {S : Nat → vS} {n : Nat} {pd : Nat → Int32} {k : Int32 → qS → qS → qS → qS → (Nat → qS) → Prop}
theorem XH.up {P i : Nat} {z : qS} (h : XH o zs P u L) (hi : i = P ∨ 7 ≤ i) : XH o (upZ zs i z) P u L := by
  obtain ⟨h1, h2, h3, h4, h5⟩ := h
  refine ⟨h1, h2, h3, h4, fun j hj => ?_⟩
  unfold upZ
  rw [if_neg (by omega)]
  exact h5 j hj
theorem c_prepare {k : qS → qS → qS → qS → (Nat → qS) → Prop} (h : XX q o d zs v u L sl S n pd) (hk : ∀ zs2, XX q o d zs2 v u L sl S n pd → XP o zs2 v u L → k q o d tq zs2) : wX4_prepare k q o d tq zs := by
  obtain ⟨hq, ⟨P, hH⟩, hS, hD⟩ := h
  have hP := hH.2.1
  have e0 : o 0 0 = nI P := hH.1
  unfold wX4_prepare wX4_prepare_b26
  rw [e0]
  refine c_in (fun c => ⟨fun z => absurd z (by decide), fun _ => ⟨vp_in_nI (by omega) (by omega), c_copyG hq (fun r hr zs5 e5 => ?_)⟩⟩) (fun c => absurd (isIn_nI (a := 0) (b := 6) (by omega) (by omega) (by omega) (by omega)) c)
  rw [nI_clamp (by omega)] at e5
  have hp : RG (zs5 P) v := by rw [e5]; unfold upZ; rw [if_pos rfl]; exact hr
  have hH5 : XH o zs5 P u L := by rw [e5]; exact hH.up (Or.inl rfl)
  refine hk zs5 ⟨hq, ⟨P, hH5⟩, fun s hs => ?_, hD⟩ ⟨P, hH5, hp⟩
  rw [e5]; unfold upZ; rw [if_neg (by omega)]; exact hS s hs
theorem ring_1 : ∀ P : Nat, P < 7 → (nI P + 1) - (nI P + 1) / 7 * 7 = nI ((P + 1) % 7) := by decide
theorem ring_6 : ∀ P : Nat, P < 7 → ((nI P + 7) - 1) - ((nI P + 7) - 1) / 7 * 7 = nI ((P + 6) % 7) := by decide
theorem ring_u : ∀ u : Nat, u < 7 → (if (6 : Int32) < nI u + 1 then (6 : Int32) else nI u + 1) = nI (recU u) := by decide
theorem c_rec {x : Int32} {v2 : vS} (hq : RG q v2) (hX : XX q o d zs v2 u L sl S n pd) (hp : XP o zs v u L) (hx : ¬ x < 0) (hk : ∀ o2, XX q o2 d zs v2 (recU u) (recL u L v) sl S n pd → k x q o2 d tq zs) : wX9_recorded k q o d tq zs x := by
  obtain ⟨P, ⟨h1, h2, h3, h4, h5⟩, hpz⟩ := hp
  obtain ⟨-, -, hS, hD⟩ := hX
  unfold wX9_recorded wX9_recorded_b11
  refine ⟨fun c => absurd c hx, fun _ => ?_⟩
  unfold wX4_keepPrepared
  intro y1 e1 o2 e2 y3 e3 o4 e4
  rw [h1, ring_1 P h2] at e1
  have e01 : o2 0 1 = nI u := by rw [e2, up2_A, upA_s, upd_n (by omega)]; exact h3
  rw [e01, ring_u u (by omega)] at e3
  have g0 : o4 0 0 = nI ((P + 1) % 7) := by rw [e4, up2_A, upA_s, upd_n (by omega), e2, up2_A, upA_s, upd_s, e1]
  have g1 : o4 0 1 = nI (recU u) := by rw [e4, up2_A, upA_s, upd_s, e3]
  have gs : o4 1 = o 1 := by rw [e4, up2_A, upA_n (by decide), e2, up2_A, upA_n (by decide)]
  refine hk o4 ⟨hq, ⟨(P + 1) % 7, g0, by omega, g1, by unfold recU; split <;> omega, fun i hi => ?_⟩, fun s hs => by rw [gs]; exact hS s hs, hD⟩
  unfold recU at hi ⊢
  unfold recL
  by_cases c : u = 6
  · rw [if_pos c] at hi ⊢
    rw [if_pos c]
    by_cases c5 : i < 5
    · rw [if_pos c5, show ((P + 1) % 7 + 7 - 6 + i) % 7 = (P + 7 - u + (i + 1)) % 7 from by omega]
      exact h5 (i + 1) (by omega)
    · rw [if_neg c5, show ((P + 1) % 7 + 7 - 6 + i) % 7 = P from by omega]
      exact hpz
  · rw [if_neg c] at hi ⊢
    rw [if_neg c]
    by_cases ci : i = u
    · rw [if_pos ci, show ((P + 1) % 7 + 7 - (u + 1) + i) % 7 = P from by omega]
      exact hpz
    · rw [if_neg ci, show ((P + 1) % 7 + 7 - (u + 1) + i) % 7 = (P + 7 - u + i) % 7 from by omega]
      exact h5 i (by omega)
theorem c_norec {x : Int32} (hx : x < 0) (hk : k x q o d tq zs) : wX9_recorded k q o d tq zs x := by
  unfold wX9_recorded wX9_recorded_b11
  exact ⟨fun _ => hk, fun c => absurd hx c⟩
theorem upd_hi {v : vS} {i : Nat} {x : Int32} (hi : i < 210) (h : ∀ j, 210 ≤ j → v j = 0) : ∀ j, 210 ≤ j → upd v i x j = 0 := fun j hj => by rw [upd_n (by omega)]; exact h j hj
theorem c_Xset {s x : Int32} (h : XX q o d zs v u L sl S n pd) (hr : refSet v s x ≠ 0 → ∀ zs2, XX q o d zs2 v u L sl S n pd → k (refSet v s x) q o d tq zs2)
    (hk : refSet v s x = 0 → ∀ q2 o2 zs2, XX q2 o2 d zs2 (upd v (nn s) x) (recU u) (recL u L v) sl S n pd → k (v (nn s)) q2 o2 d tq zs2) : wX9_set k q o d tq zs s x := by
  unfold wX9_set
  refine c_prepare h (fun zs2 hX hP => ?_)
  obtain ⟨T, F, C, hrs, H, hQ, hI, h6, hh, h2, H1, H24, hz⟩ := hX.1
  refine c_changeSetting hQ hI (fun c => ?_) (fun c i hi es r hR => ?_)
  · have : refSet v s x < 0 := by
      unfold refSet at c ⊢
      split at c
      · rename_i z; rw [if_pos z]; decide
      · rename_i z; rw [if_neg z]
        split at c
        · rename_i z2; rw [if_pos z2]; decide
        · exact absurd rfl c
    exact c_norec this (hr c zs2 hX)
  · have ci : nn s = i := by rw [es]; exact nI_clamp (by omega)
    obtain ⟨T2, H2, i1, i2, i3, i4⟩ := Inv_set hI c hi es
    have hG : RG r (upd v i x) := ⟨T2, F, C, hrs, H2, hR, i1, by rw [upd_n (by omega)]; exact h6, hh, i2, i3, i4, upd_hi (by omega) hz⟩
    have K := hk c
    rw [ci] at K
    exact c_rec hG ⟨hG, hX.2⟩ hP (set_pos hI hi) (fun o2 hX2 => K r o2 zs2 hX2)
theorem c_Xface {a b c : Int32} (h : XX q o d zs v u L sl S n pd) (hr : refFace v a b c ≠ 0 → ∀ zs2, XX q o d zs2 v u L sl S n pd → k (refFace v a b c) q o d tq zs2)
    (hk : ∀ F, v 7 = nI F → refFace v a b c = 0 → F < 8 → ∀ q2 o2 zs2, XX q2 o2 d zs2 (faceF v F a b c) (recU u) (recL u L v) sl S n pd → k (nI F) q2 o2 d tq zs2) : wX9_face k q o d tq zs a b c := by
  unfold wX9_face
  refine c_prepare h (fun zs2 hX hP => ?_)
  obtain ⟨T, F, C, hrs, H, hQ, hI, h6, hh, h2, H1, H24, hz⟩ := hX.1
  refine c_addFace hQ hI (fun z => ?_) (fun z hF r hR => ?_)
  · have : refFace v a b c < 0 := by
      unfold refFace at z ⊢
      split at z
      · rename_i y; rw [if_pos y]; decide
      · rename_i y; rw [if_neg y]
        split at z
        · rename_i y2; rw [if_pos y2]; decide
        · exact absurd rfl z
    exact c_norec this (hr z zs2 hX)
  · have hG : RG r (faceF v F a b c) := ⟨T, F + 1, C, hrs, H, hR, Inv_face hI hF z, by unfold faceF; rw [upd_n (by omega), upd_n (by omega), upd_n (by omega), upd_n (by omega), upd_n (by omega)]; exact h6, hh, by unfold faceF; rw [upd_n (by omega), upd_n (by omega), upd_n (by omega), upd_n (by omega), upd_n (by omega)]; exact h2, H1, H24, upd_hi (by omega) (upd_hi (by omega) (upd_hi (by omega) (upd_hi (by omega) (upd_hi (by omega) hz))))⟩
    exact c_rec hG ⟨hG, hX.2⟩ hP (nI_pos (by omega)) (fun o2 hX2 => hk F hI.1.2.2.1 z hF r o2 zs2 hX2)
theorem c_Xcontract {t a b e f p : Int32} (h : XX q o d zs v u L sl S n pd) (hr : refCon v t a b e f p ≠ 0 → ∀ zs2, XX q o d zs2 v u L sl S n pd → k (refCon v t a b e f p) q o d tq zs2)
    (hk : ∀ C, v 8 = nI C → refCon v t a b e f p = 0 → C < 12 → ∀ q2 o2 zs2, XX q2 o2 d zs2 (conF v C t a b e f p) (recU u) (recL u L v) sl S n pd → k (nI C) q2 o2 d tq zs2) : wX9_contract k q o d tq zs t a b e f p := by
  unfold wX9_contract
  refine c_prepare h (fun zs2 hX hP => ?_)
  obtain ⟨T, F, C, hrs, H, hQ, hI, h6, hh, h2, H1, H24, hz⟩ := hX.1
  refine c_addContract hQ hI (fun z => ?_) (fun z hC r hR => ?_)
  · have : refCon v t a b e f p < 0 := by
      unfold refCon at z ⊢
      split at z
      · rename_i y; rw [if_pos y]; decide
      · rename_i y; rw [if_neg y]
        split at z
        · rename_i y2; rw [if_pos y2]; decide
        · exact absurd rfl z
    exact c_norec this (hr z zs2 hX)
  · have hG : RG r (conF v C t a b e f p) := ⟨T, F, C + 1, hrs, H, hR, Inv_con hI hC z, by unfold conF; rw [upd_n (by omega), upd_n (by omega), upd_n (by omega), upd_n (by omega), upd_n (by omega), upd_n (by omega), upd_n (by omega)]; exact h6, hh, by unfold conF; rw [upd_n (by omega), upd_n (by omega), upd_n (by omega), upd_n (by omega), upd_n (by omega), upd_n (by omega), upd_n (by omega)]; exact h2, H1, H24, upd_hi (by omega) (upd_hi (by omega) (upd_hi (by omega) (upd_hi (by omega) (upd_hi (by omega) (upd_hi (by omega) (upd_hi (by omega) hz))))))⟩
    exact c_rec hG ⟨hG, hX.2⟩ hP (nI_pos (by omega)) (fun o2 hX2 => hk C hI.2.2.2.1.1 z hC r o2 zs2 hX2)
theorem c_Xdrop {x : Int32} (h : XX q o d zs v u L sl S n pd) (hr : ∀ C, v 8 = nI C → C ≤ 12 → (¬ ∃ j, j < C ∧ x = nI j) → ∀ zs2, XX q o d zs2 v u L sl S n pd → k (-1) q o d tq zs2)
    (hk : ∀ C, v 8 = nI C → C ≤ 12 → ∀ c, c < C → x = nI c → ∀ q2 o2 zs2, XX q2 o2 d zs2 (dropF v c) (recU u) (recL u L v) sl S n pd → k (nI (C - 1)) q2 o2 d tq zs2) : wX9_drop k q o d tq zs x := by
  unfold wX9_drop
  refine c_prepare h (fun zs2 hX hP => ?_)
  obtain ⟨T, F, C, hrs, H, hQ, hI, h6, hh, h2, H1, H24, hz⟩ := hX.1
  have h8 := hI.2.2.2.1.1
  have hC := hI.2.2.2.1.2.1
  by_cases ex : ∃ j, j < C ∧ x = nI j
  · obtain ⟨c, hc, rfl⟩ := ex
    have K := hk C h8 hC c hc rfl
    obtain ⟨C, rfl⟩ : ∃ m, C = m + 1 := ⟨C - 1, by omega⟩
    refine c_dropOne hQ hI (by omega) (fun r hR => ?_)
    have hG : RG r (dropF v c) := ⟨T, F, C, hrs, H, hR, hI.drop (by omega), by rw [drop_lo (C := C + 1) (by omega) h8 hC (by omega) (by omega)]; exact h6, hh, by rw [drop_lo (C := C + 1) (by omega) h8 hC (by omega) (by omega)]; exact h2, H1, H24, fun j hj => by rw [drop_hi (C := C + 1) h8 (by omega) hC hc hj]; exact hz j hj⟩
    exact c_rec hG ⟨hG, hX.2⟩ hP (nI_pos (by omega)) (fun o2 hX2 => K r o2 zs2 hX2)
  · exact c_dropNone (by rw [hQ.2.1.2.2.1]; exact h8) hC ex (c_norec (by decide) (hr C h8 hC ex zs2 hX))
theorem c_Xmend (h : XX q o d zs v u L sl S n pd) (hk : ∀ q2 o2 zs2, XX q2 o2 d zs2 (upd v 10 0) (recU u) (recL u L v) sl S n pd → k (v 10) q2 o2 d tq zs2) : wX9_mend k q o d tq zs := by
  unfold wX9_mend
  refine c_prepare h (fun zs2 hX hP => ?_)
  obtain ⟨T, F, C, hrs, H, hQ, hI, h6, hh, h2, H1, H24, hz⟩ := hX.1
  refine c_mend hQ hI.1.2.2.2.1 hI.2.2.2.1.2.1 (fun r hR => ?_)
  have hG : RG r (upd v 10 0) := ⟨T, F, C, hrs, H, hR, Inv_mend hI, by rw [upd_n (by omega)]; exact h6, hh, by rw [upd_n (by omega)]; exact h2, H1, H24, upd_hi (by omega) hz⟩
  obtain ⟨w, w1, w2⟩ := hI.2.2.1.1
  refine c_rec hG ⟨hG, hX.2⟩ hP ?_ (fun o2 hX2 => hk r o2 zs2 hX2)
  rw [w1]; exact nI_pos (by omega)
theorem c_Xpass {x : Int32} (h : XX q o d zs v u L sl S n pd) (hr : refPass v x ≠ 0 → ∀ zs2, XX q o d zs2 v u L sl S n pd → k (refPass v x) q o d tq zs2)
    (hk : refPass v x = 0 → ∀ D : Nat, 1 ≤ D → D ≤ 30 → x = nI D → ∀ q2 o2 zs2, XX q2 o2 d zs2 (daysF D v) (recU u) (recL u L v) sl S n pd → k (daysF D v 11 - v 11) q2 o2 d tq zs2) : wX9_pass k q o d tq zs x := by
  unfold wX9_pass
  refine c_prepare h (fun zs2 hX hP => ?_)
  obtain ⟨T, F, C, hrs, H, hQ, hI, h6, hh, h2, H1, H24, hz⟩ := hX.1
  refine c_passDays hQ hI h6 hh h2 H24 (fun c => ?_) (fun c D D1 D30 eD r C2 N2 hR hI2 => ?_)
  · have : refPass v x < 0 := by
      unfold refPass at c ⊢
      split at c
      · rename_i z; rw [if_pos z]; decide
      · rename_i z; rw [if_neg z]
        split at c
        · rename_i z2; rw [if_pos z2]; decide
        · exact absurd rfl c
    exact c_norec this (hr c zs2 hX)
  · have hHD : H * D ≤ 24 * 30 := Nat.mul_le_mul H24 D30
    have e29 : 29 * H * D = 29 * (H * D) := Nat.mul_assoc _ _ _
    have hN : 29 * hrs + 29 * H * D ≤ 500000 := by omega
    obtain ⟨C3, c1, c2, c3, c4⟩ := Inv.days (T := T) (F := F) H24 D v C (29 * hrs) hI h2 hN
    obtain ⟨C4, e, p, f1, f2, f3, f4, f5⟩ := days_gain (T := T) (F := F) H24 D v C (29 * hrs) hI h2 hN
    have hle : hrs + H * D ≤ 9999 := by
      unfold refPass at c
      split at c
      · exact absurd c (by decide)
      · split at c
        · exact absurd c (by decide)
        · rename_i z
          rw [Decidable.not_not, h6, h2, eD, pk_mul, nI_add, show (9999 : Int32) = nI 9999 from rfl, nI_leI (by rw [Nat.mul_comm]; omega) (by omega), Nat.mul_comm] at z
          exact z
    have hIG : Inv (daysF D v) T F C2 (29 * (hrs + H * D)) := by
      have hc : C2 = C3 := by
        have a1 := hI2.2.2.2.1.1
        rw [c2.2.2.2.1.1] at a1
        have b1 := hI2.2.2.2.1.2.1
        have b2 := c2.2.2.2.1.2.1
        exact ((nI_eq (by omega) (by omega)).mp a1).symm
      rw [hc, show 29 * (hrs + H * D) = 29 * hrs + 29 * H * D from by omega]
      exact c2
    have hG : RG r (daysF D v) := ⟨T, F, C2, hrs + H * D, H, hR, hIG, by rw [c4, h6, nI_add], hle, by rw [c3 2 (by omega)]; exact h2, H1, H24, fun j hj => by rw [days_hi H24 D v C _ hI h2 hN j hj]; exact hz j hj⟩
    refine c_rec hG ⟨hG, hX.2⟩ hP ?_ (fun o2 hX2 => hk c D D1 D30 eD r o2 zs2 hX2)
    have hC12 := hI.2.2.2.1.2.1
    rw [f3, gain_sub]; exact nI_pos (by omega)
end CX
