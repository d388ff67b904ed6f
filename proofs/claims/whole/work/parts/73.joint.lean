/-! ===== class and reference side by side: each call answers alike and leaves both telling the same ===== -/
def JJ (q o d : qS) (zs : Nat → qS) (m : qS) : Prop := ∃ v u L sl S n pd, XX q o d zs v u L sl S n pd ∧ MM m v u L sl S n pd
section JO
variable {q o d tq : qS} {zs : Nat → qS} {m : qS} {a b c e f g : Int32}
theorem j_set (h : JJ q o d zs m) : wX9_set (fun r q o d tq zs => wX10_set (fun r2 m => r = r2 ∧ JJ q o d zs m) m a b) q o d tq zs a b := by
  obtain ⟨v, u, L, sl, S, n, pd, hX, hM⟩ := h
  obtain ⟨T, F, C, hrs, H, hQ, hI, -⟩ := id hX.1
  exact c_Xset hX (fun z zs2 hX2 => e_set hM hI.1.1 hI.1.2.1 (fun _ r hr => ⟨rfl, v, u, L, sl, S, n, pd, hX2, hr⟩) (fun z2 => absurd z2 z))
    (fun z q2 o2 zs2 hX2 => e_set hM hI.1.1 hI.1.2.1 (fun z2 => absurd z z2) (fun _ r hr => ⟨rfl, _, _, _, sl, S, n, pd, hX2, hr⟩))
theorem j_face (h : JJ q o d zs m) : wX9_face (fun r q o d tq zs => wX10_face (fun r2 m => r = r2 ∧ JJ q o d zs m) m a b c) q o d tq zs a b c := by
  obtain ⟨v, u, L, sl, S, n, pd, hX, hM⟩ := h
  obtain ⟨T, F, C, hrs, H, hQ, hI, -⟩ := id hX.1
  exact c_Xface hX (fun z zs2 hX2 => e_face hM hI.1.2.2.1 hI.1.2.2.2.1 (fun _ r hr => ⟨rfl, v, u, L, sl, S, n, pd, hX2, hr⟩) (fun z2 => absurd z2 z))
    (fun F2 h7 z hF q2 o2 zs2 hX2 => e_face hM h7 (by omega) (fun z2 => absurd z z2) (fun _ _ r hr => ⟨rfl, _, _, _, sl, S, n, pd, hX2, hr⟩))
theorem j_contract (h : JJ q o d zs m) : wX9_contract (fun r q o d tq zs => wX10_contract (fun r2 m => r = r2 ∧ JJ q o d zs m) m a b c e f g) q o d tq zs a b c e f g := by
  obtain ⟨v, u, L, sl, S, n, pd, hX, hM⟩ := h
  obtain ⟨T, F, C, hrs, H, hQ, hI, -⟩ := id hX.1
  exact c_Xcontract hX (fun z zs2 hX2 => e_contract hM hI.2.2.2.1.1 hI.2.2.2.1.2.1 (fun _ r hr => ⟨rfl, v, u, L, sl, S, n, pd, hX2, hr⟩) (fun z2 => absurd z2 z))
    (fun C2 h8 z hC q2 o2 zs2 hX2 => e_contract hM h8 (by omega) (fun z2 => absurd z z2) (fun _ _ r hr => ⟨rfl, _, _, _, sl, S, n, pd, hX2, hr⟩))
theorem j_drop (h : JJ q o d zs m) : wX9_drop (fun r q o d tq zs => wX10_drop (fun r2 m => r = r2 ∧ JJ q o d zs m) m a) q o d tq zs a := by
  obtain ⟨v, u, L, sl, S, n, pd, hX, hM⟩ := h
  exact c_Xdrop hX (fun C h8 hC z zs2 hX2 => e_drop hM h8 hC (fun _ r hr => ⟨rfl, v, u, L, sl, S, n, pd, hX2, hr⟩) (fun c hc hx => absurd ⟨c, hc, hx⟩ z))
    (fun C h8 hC c hc hx q2 o2 zs2 hX2 => e_drop hM h8 hC (fun z => absurd ⟨c, hc, hx⟩ z) (fun c2 hc2 hx2 r hr => by
      have ec : c2 = c := by rw [hx] at hx2; exact ((nI_eq (by omega) (by omega)).mp hx2).symm
      subst ec
      exact ⟨rfl, _, _, _, sl, S, n, pd, hX2, hr⟩))
theorem j_mend (h : JJ q o d zs m) : wX9_mend (fun r q o d tq zs => wX10_mend (fun r2 m => r = r2 ∧ JJ q o d zs m) m) q o d tq zs := by
  obtain ⟨v, u, L, sl, S, n, pd, hX, hM⟩ := h
  exact c_Xmend hX (fun q2 o2 zs2 hX2 => e_mend hM (fun r hr => ⟨rfl, _, _, _, sl, S, n, pd, hX2, hr⟩))
theorem j_pass (h : JJ q o d zs m) : wX9_pass (fun r q o d tq zs => wX10_pass (fun r2 m => r = r2 ∧ JJ q o d zs m) m a) q o d tq zs a := by
  obtain ⟨v, u, L, sl, S, n, pd, hX, hM⟩ := h
  have hg := hX.1.gi
  exact c_Xpass hX (fun z zs2 hX2 => e_pass hM hg (fun _ r hr => ⟨rfl, v, u, L, sl, S, n, pd, hX2, hr⟩) (fun z2 => absurd z2 z))
    (fun z D D1 D30 eD q2 o2 zs2 hX2 => e_pass hM hg (fun z2 => absurd z z2) (fun _ D2 _ _ eD2 r hr => by
      have ec : D2 = D := by rw [eD] at eD2; exact ((nI_eq (by omega) (by omega)).mp eD2).symm
      subst ec
      exact ⟨rfl, _, _, _, sl, S, n, pd, hX2, hr⟩))
theorem j_ofFace (h : JJ q o d zs m) : wX9_ofFace (fun r q o d tq zs => wX10_ofFace (fun r2 m => r = r2 ∧ JJ q o d zs m) m a b) q o d tq zs a b := by
  obtain ⟨v, u, L, sl, S, n, pd, hX, hM⟩ := h
  obtain ⟨T, F, C, hrs, H, hQ, hI, -⟩ := id hX.1
  have hF8 := hI.1.2.2.2.1
  exact c_XofFace hQ hI (fun z => e_ofFace hM hI.1.1 hI.1.2.1 hI.1.2.2.1 hF8 (fun _ r hr => ⟨rfl, v, u, L, sl, S, n, pd, hX, hr⟩) (fun j hj e => absurd ⟨j, hj, e⟩ z))
    (fun j hj e => e_ofFace hM hI.1.1 hI.1.2.1 hI.1.2.2.1 hF8 (fun z => absurd ⟨j, hj, e⟩ z) (fun j2 hj2 e2 r hr => by
      have ec : j2 = j := by rw [e] at e2; exact ((nI_eq (by omega) (by omega)).mp e2).symm
      subst ec
      exact ⟨rfl, v, u, L, sl, S, n, pd, hX, hr⟩))
theorem j_truck (h : JJ q o d zs m) : wX9_truck (fun r q o d tq zs => wX10_truck (fun r2 m => r = r2 ∧ JJ q o d zs m) m a b) q o d tq zs a b := by
  obtain ⟨v, u, L, sl, S, n, pd, hX, hM⟩ := h
  obtain ⟨T, F, C, hrs, H, hQ, hI, -⟩ := id hX.1
  have hT := hI.1.2.1
  exact c_Xtruck hQ hI (fun z => e_truck hM hI.1.1 hT (fun _ r hr => ⟨rfl, v, u, L, sl, S, n, pd, hX, hr⟩) (fun j hj e => absurd ⟨j, hj, e⟩ z))
    (fun j hj e => e_truck hM hI.1.1 hT (fun z => absurd ⟨j, hj, e⟩ z) (fun j2 hj2 e2 r hr => by
      have ec : j2 = j := by rw [e] at e2; exact ((nI_eq (by omega) (by omega)).mp e2).symm
      subst ec
      exact ⟨rfl, v, u, L, sl, S, n, pd, hX, hr⟩))
theorem j_ofContract (h : JJ q o d zs m) : wX9_ofContract (fun r q o d tq zs => wX10_ofContract (fun r2 m => r = r2 ∧ JJ q o d zs m) m a b) q o d tq zs a b := by
  obtain ⟨v, u, L, sl, S, n, pd, hX, hM⟩ := h
  obtain ⟨T, F, C, hrs, H, hQ, hI, hi⟩ := id hX.1
  have hC := hI.2.2.2.1.2.1
  have hh := hi.2.1
  exact c_XofContract hQ hI (fun z => e_ofContract hM hI (by omega) (fun _ r hr => ⟨rfl, v, u, L, sl, S, n, pd, hX, hr⟩) (fun j hj e => absurd ⟨j, hj, e⟩ z))
    (fun j hj e q2 hQ2 => e_ofContract hM hI (by omega) (fun z => absurd ⟨j, hj, e⟩ z) (fun j2 hj2 e2 r hr => by
      have ec : j2 = j := by rw [e] at e2; exact ((nI_eq (by omega) (by omega)).mp e2).symm
      subst ec
      exact ⟨rfl, v, u, L, sl, S, n, pd, ⟨⟨T, F, C, hrs, H, hQ2, hI, hi⟩, hX.2⟩, hr⟩))
theorem j_bin (h : JJ q o d zs m) : wX9_bin (fun r q o d tq zs => wX10_bin (fun r2 m => r = r2 ∧ JJ q o d zs m) m a) q o d tq zs a := by
  obtain ⟨v, u, L, sl, S, n, pd, hX, hM⟩ := h
  obtain ⟨T, F, C, hrs, H, hQ, hI, -⟩ := id hX.1
  exact c_Xbin hQ (fun z => e_bin hM (fun _ r hr => ⟨rfl, v, u, L, sl, S, n, pd, hX, hr⟩) (fun j hj e => absurd (by rw [e]; exact isIn_nI (a := 0) (b := 2) (by omega) (by omega) (by omega) hj) z))
    (fun j hj e => e_bin hM (fun z => absurd (by rw [e]; exact isIn_nI (a := 0) (b := 2) (by omega) (by omega) (by omega) hj) z) (fun j2 hj2 e2 r hr => by
      have ec : j2 = j := by rw [e] at e2; exact ((nI_eq (by omega) (by omega)).mp e2).symm
      subst ec
      exact ⟨rfl, v, u, L, sl, S, n, pd, hX, hr⟩))
theorem j_waiting (h : JJ q o d zs m) : wX9_waiting (fun r q o d tq zs => wX10_waiting (fun r2 m => r = r2 ∧ JJ q o d zs m) m a) q o d tq zs a := by
  obtain ⟨v, u, L, sl, S, n, pd, hX, hM⟩ := h
  obtain ⟨T, F, C, hrs, H, hQ, hI, -⟩ := id hX.1
  exact c_Xwaiting hQ (fun z => e_waiting hM (fun _ r hr => ⟨rfl, v, u, L, sl, S, n, pd, hX, hr⟩) (fun j j1 hj e => absurd (by rw [e]; exact isIn_nI (a := 1) (b := 9) (by omega) (by omega) j1 hj) z))
    (fun j j1 hj e => e_waiting hM (fun z => absurd (by rw [e]; exact isIn_nI (a := 1) (b := 9) (by omega) (by omega) j1 hj) z) (fun j2 _ hj2 e2 r hr => by
      have ec : j2 = j := by rw [e] at e2; exact ((nI_eq (by omega) (by omega)).mp e2).symm
      subst ec
      exact ⟨rfl, v, u, L, sl, S, n, pd, hX, hr⟩))
theorem j_count (h : JJ q o d zs m) : wX9_count (fun r q o d tq zs => wX10_count (fun r2 m => r = r2 ∧ JJ q o d zs m) m a) q o d tq zs a := by
  obtain ⟨v, u, L, sl, S, n, pd, hX, hM⟩ := h
  obtain ⟨T, F, C, hrs, H, hQ, hI, -⟩ := id hX.1
  obtain ⟨P, hH⟩ := id hX.2.1
  exact c_Xcount hQ hI hX.2.2.2.1 hH.2.2.1 (e_count hM hI.1.1 hI.1.2.1 (fun r hr => ⟨rfl, v, u, L, sl, S, n, pd, hX, hr⟩))
theorem j_then (h : JJ q o d zs m) : wX9_then (fun r q o d tq zs => wX10_then (fun r2 m => r = r2 ∧ JJ q o d zs m) m a b) q o d tq zs a b := by
  obtain ⟨v, u, L, sl, S, n, pd, hX, hM⟩ := h
  have hg := hX.1.gi
  exact c_Xthen hX.1 (fun z => e_then hM hg (fun _ r hr => ⟨rfl, v, u, L, sl, S, n, pd, hX, hr⟩) (fun w D D1 D30 eD => absurd ⟨by rw [eD]; exact isIn_nI (a := 1) (b := 30) (by omega) (by omega) D1 D30, w⟩ z))
    (fun w D D1 D30 eD tq2 => e_then hM hg (fun z => absurd ⟨by rw [eD]; exact isIn_nI (a := 1) (b := 30) (by omega) (by omega) D1 D30, w⟩ z) (fun _ D2 _ _ eD2 r hr => by
      have ec : D2 = D := by rw [eD] at eD2; exact ((nI_eq (by omega) (by omega)).mp eD2).symm
      subst ec
      exact ⟨rfl, v, u, L, sl, S, n, pd, hX, hr⟩))
theorem j_bestGap (h : JJ q o d zs m) : wX9_bestGap (fun r q o d tq zs => wX10_bestGap (fun r2 m => r = r2 ∧ JJ q o d zs m) m a b) q o d tq zs a b := by
  obtain ⟨v, u, L, sl, S, n, pd, hX, hM⟩ := h
  have hg := hX.1.gi
  exact c_XbestGap hX.1 (fun z => e_bestGap hM hg (fun _ r hr => ⟨rfl, v, u, L, sl, S, n, pd, hX, hr⟩) (fun w D D1 D30 eD => absurd ⟨by rw [eD]; exact isIn_nI (a := 1) (b := 30) (by omega) (by omega) D1 D30, w⟩ z))
    (fun w D D1 D30 eD tq2 => e_bestGap hM hg (fun z => absurd ⟨by rw [eD]; exact isIn_nI (a := 1) (b := 30) (by omega) (by omega) D1 D30, w⟩ z) (fun _ D2 _ _ eD2 r hr => by
      have ec : D2 = D := by rw [eD] at eD2; exact ((nI_eq (by omega) (by omega)).mp eD2).symm
      subst ec
      exact ⟨rfl, v, u, L, sl, S, n, pd, hX, hr⟩))
theorem j_leastTrucks (h : JJ q o d zs m) : wX9_leastTrucks (fun r q o d tq zs => wX10_leastTrucks (fun r2 m => r = r2 ∧ JJ q o d zs m) m a b) q o d tq zs a b := by
  obtain ⟨v, u, L, sl, S, n, pd, hX, hM⟩ := h
  have hg := hX.1.gi
  exact c_XleastTrucks hX.1 (fun z => e_leastTrucks hM hg (fun _ r hr => ⟨rfl, v, u, L, sl, S, n, pd, hX, hr⟩) (fun w D D1 D30 eD => absurd ⟨by rw [eD]; exact isIn_nI (a := 1) (b := 30) (by omega) (by omega) D1 D30, w⟩ z))
    (fun w D D1 D30 eD tq2 => e_leastTrucks hM hg (fun z => absurd ⟨by rw [eD]; exact isIn_nI (a := 1) (b := 30) (by omega) (by omega) D1 D30, w⟩ z) (fun _ D2 _ _ eD2 r hr => by
      have ec : D2 = D := by rw [eD] at eD2; exact ((nI_eq (by omega) (by omega)).mp eD2).symm
      subst ec
      exact ⟨rfl, v, u, L, sl, S, n, pd, hX, hr⟩))
theorem j_wipe (h : JJ q o d zs m) : wX9_wipe (fun r q o d tq zs => wX10_wipe (fun r2 m => r = r2 ∧ JJ q o d zs m) m) q o d tq zs := by
  obtain ⟨v, u, L, sl, S, n, pd, hX, hM⟩ := h
  exact c_Xwipe hX (fun d2 hX2 => e_wipe hM (fun r hr => ⟨rfl, v, u, L, sl, S, 0, pd, hX2, hr⟩))
theorem RG.hi {q : qS} {v : vS} (h : RG q v) : ∀ j, 210 ≤ j → v j = 0 := by
  obtain ⟨T, F, C, hr, H, -, -, -, -, -, -, -, hz⟩ := h
  exact hz
theorem j_undo (h : JJ q o d zs m) : wX9_undo (fun r q o d tq zs => wX10_undo (fun r2 m => r = r2 ∧ JJ q o d zs m) m) q o d tq zs := by
  obtain ⟨v, u, L, sl, S, n, pd, hX, hM⟩ := h
  have hL : ∀ i, i < u → ∀ j, 210 ≤ j → L i j = v j := fun i hi j hj => by
    obtain ⟨P, hH⟩ := hX.2.1
    rw [(hH.2.2.2.2 i hi).hi j hj, hX.1.hi j hj]
  exact c_Xundo hX (fun z => e_undo hM hL (fun _ r hr => ⟨rfl, v, u, L, sl, S, n, pd, hX, hr⟩) (fun w hw => by omega))
    (fun w hw q2 o2 zs2 hX2 => e_undo hM hL (fun z => by omega) (fun w2 hw2 r hr => by
      have ec : w2 = w := by omega
      subst ec
      exact ⟨rfl, _, _, L, sl, S, n, pd, hX2, hr⟩))
theorem j_save (h : JJ q o d zs m) : wX9_save (fun r q o d tq zs => wX10_save (fun r2 m => r = r2 ∧ JJ q o d zs m) m a) q o d tq zs a := by
  obtain ⟨v, u, L, sl, S, n, pd, hX, hM⟩ := h
  exact c_Xsave hX (fun z => e_save hM (fun _ r hr => ⟨rfl, v, u, L, sl, S, n, pd, hX, hr⟩) (fun s hs e => absurd ⟨s, hs, e⟩ z))
    (fun s hs e o2 zs2 hX2 => e_save hM (fun z => absurd ⟨s, hs, e⟩ z) (fun s2 hs2 e2 r hr => by
      have ec : s2 = s := by rw [e] at e2; exact ((nI_eq (by omega) (by omega)).mp e2).symm
      subst ec
      exact ⟨rfl, v, u, L, _, _, n, pd, hX2, hr⟩))
theorem j_restore (h : JJ q o d zs m) : wX9_restore (fun r q o d tq zs => wX10_restore (fun r2 m => r = r2 ∧ JJ q o d zs m) m a) q o d tq zs a := by
  obtain ⟨v, u, L, sl, S, n, pd, hX, hM⟩ := h
  have hS : ∀ s, s < 2 → ¬ sl s = 0 → ∀ j, 210 ≤ j → S s j = v j := fun s hs hz j hj => by
    rw [((hX.2.2.1 s hs).2 hz).hi j hj, hX.1.hi j hj]
  exact c_Xrestore hX (fun z => e_restore hM hS (fun _ r hr => ⟨rfl, v, u, L, sl, S, n, pd, hX, hr⟩) (fun s hs e => absurd ⟨s, hs, e⟩ z) (fun s hs e => absurd ⟨s, hs, e⟩ z))
    (fun s hs e h0 => e_restore hM hS (fun z => absurd ⟨s, hs, e⟩ z) (fun s2 hs2 e2 h02 r hr => ⟨rfl, v, u, L, sl, S, n, pd, hX, hr⟩) (fun s2 hs2 e2 h02 => by
      have ec : s2 = s := by rw [e] at e2; exact ((nI_eq (by omega) (by omega)).mp e2).symm
      subst ec
      exact absurd h0 h02))
    (fun s hs e h0 q2 o2 zs2 hX2 => e_restore hM hS (fun z => absurd ⟨s, hs, e⟩ z) (fun s2 hs2 e2 h02 => by
      have ec : s2 = s := by rw [e] at e2; exact ((nI_eq (by omega) (by omega)).mp e2).symm
      subst ec
      exact absurd h02 h0) (fun s2 hs2 e2 h02 r hr => by
      have ec : s2 = s := by rw [e] at e2; exact ((nI_eq (by omega) (by omega)).mp e2).symm
      subst ec
      exact ⟨rfl, _, _, _, sl, S, n, pd, hX2, hr⟩))
end JO
