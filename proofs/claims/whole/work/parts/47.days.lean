/-! ===== days ===== -/
/-- between two states of the reference that differ in the 210 numbers and in the blend that was laid -/
def Fr (q r : qS) : Prop := (∀ i, i ≠ 0 → i ≠ 1 → r i = q i) ∧ ∀ j, j ≠ 9 → j ≠ 10 → r 0 j = q 0 j
theorem Fr.refl (q : qS) : Fr q q := ⟨fun _ _ _ => rfl, fun _ _ _ => rfl⟩
theorem Fr.trans {p q r : qS} (h : Fr p q) (h2 : Fr q r) : Fr p r := ⟨fun i a b => (h2.1 i a b).trans (h.1 i a b), fun j a b => (h2.2 j a b).trans (h.2 j a b)⟩
theorem Fr.up (q : qS) (f : Nat → Int32) : Fr q (upA q 1 f) := ⟨fun _ _ b => upA_n b, fun _ _ _ => by rw [upA_n (by decide)]⟩
theorem Fr.bl (q : qS) (x y : Int32) : Fr q (up2 (up2 q 0 9 x) 0 10 y) := by
  refine ⟨fun i a b => ?_, fun j a b => ?_⟩
  · rw [up2_A, upA_n a, up2_A, upA_n a]
  · rw [up2_A, upA_s, upd_n b, up2_A, upA_s, upd_n a]
theorem bl_1 (q : qS) (x y : Int32) : up2 (up2 q 0 9 x) 0 10 y 1 = q 1 := by rw [up2_A, upA_n (by decide), up2_A, upA_n (by decide)]
theorem bl_9 (q : qS) (x y : Int32) : up2 (up2 q 0 9 x) 0 10 y 0 9 = x := by rw [up2_A, upA_s, upd_n (by decide), up2_A, upA_s, upd_s]
theorem bl_10 (q : qS) (x y : Int32) : up2 (up2 q 0 9 x) 0 10 y 0 10 = y := by rw [up2_A, upA_s, upd_s]
theorem drop_lo {v : vS} {c j : Nat} {C : Nat} (hC : 1 ≤ C) (h8 : v 8 = nI C) (hC2 : C ≤ 12) (hj : j < 138) (h : j ≠ 8) : dropF v c j = v j := by
  have cc : nn (v 8) - 1 = C - 1 := by rw [h8]; unfold nn; rw [nI_clamp (by omega)]
  unfold dropF
  rw [cc, if_neg h, if_neg (by omega), if_neg (by omega)]
theorem drop_8 {v : vS} {c C : Nat} (h8 : v 8 = nI (C + 1)) : dropF v c 8 = nI C := by
  unfold dropF; rw [if_pos rfl, h8, nI_pred]
theorem Inv.drop {v : vS} {T F C N c : Nat} (hv : Inv v T F (C + 1) N) (hc : c ≤ C) : Inv (dropF v c) T F C N := by
  obtain ⟨h1, h2, h3, ⟨h8, hC, hcn⟩, h5, h6⟩ := hv
  have lo : ∀ j, j < 138 → j ≠ 8 → dropF v c j = v j := fun j a b => drop_lo (by omega) h8 hC a b
  refine ⟨h1.keep (lo _ (by omega) (by omega)) (lo _ (by omega) (by omega)) (fun j _ _ => lo j (by omega) (by omega)), h2.keep (fun j _ _ => lo j (by omega) (by omega)), h3.keep (lo _ (by omega) (by omega)) (fun j _ _ => lo j (by omega) (by omega)), ⟨drop_8 h8, by omega, fun c2 hc2 => ?_⟩, h5.keep h1.2.2.2.1 (fun j _ _ => lo j (by omega) (by omega)), h6.keep (fun j _ _ => lo j (by omega) (by omega))⟩
  have cc : nn (v 8) - 1 = C := by rw [h8]; unfold nn; rw [nI_clamp (by omega)]; omega
  by_cases q : c2 < c
  · obtain ⟨t, a, b, e, f, p, hh⟩ := hcn c2 (by omega)
    exact ⟨t, a, b, e, f, p, hh.keep (fun j hj => by unfold dropF; rw [cc, if_neg (by omega), if_neg (by omega), if_neg (by omega)])⟩
  · obtain ⟨t, a, b, e, f, p, hh⟩ := hcn (c2 + 1) (by omega)
    have key : ∀ j, j < 6 → trF (dropF v c) c2 j = trF v (c2 + 1) j := by
      intro j hj
      unfold trF dropF
      rw [cc, if_neg (by omega), if_pos (by omega)]
      exact congrArg v (by omega)
    refine ⟨t, a, b, e, f, p, ?_⟩
    unfold cnOk at hh ⊢
    rw [key 0 (by omega), key 1 (by omega), key 2 (by omega), key 3 (by omega), key 4 (by omega), key 5 (by omega)]
    exact hh
theorem Inv.bins {v : vS} {T F C N : Nat} (hv : Inv v T F C N) (hN : N ≤ 500000) : ∃ b0 b1 b2, bnOk v b0 b1 b2 ∧ b0 + b1 + b2 ≤ 200 * N := by
  obtain ⟨b0, b1, b2, x0, x1, x2, x3⟩ := hv.2.2.1.2.1
  exact ⟨b0, b1, b2, ⟨x0, x1, x2, by omega⟩, x3⟩
/-- what a contract without a reason against it says in natural numbers -/
theorem reason0 {v : vS} {c t a b e f p b0 b1 b2 : Nat} (hC : cnOk v c t a b e f p) (hB : bnOk v b0 b1 b2) (h : reasonF v c = 0) : ∃ cs fs : Nat, coarseF v c = nI cs ∧ fineF v c = nI fs ∧ fs ≤ b0 ∧ cs ≤ b2 ∧ fs + cs ≤ t ∧ t - fs - cs ≤ b1 := by
  unfold reasonF at h
  by_cases d1 : ¬ trF v c 0 ≤ v 14 + v 15 + v 16
  · rw [if_pos d1] at h; exact absurd h (by decide)
  rw [if_neg d1] at h
  by_cases d2 : ¬ sieveF v c
  · rw [if_pos d2] at h; exact absurd h (by decide)
  rw [if_neg d2] at h
  by_cases d3 : ¬ upF (trF v c 1) (trF v c 0) ≤ v 14
  · rw [if_pos d3] at h; exact absurd h (by decide)
  rw [if_neg d3] at h
  by_cases d4 : ¬ upF (trF v c 3) (trF v c 0) ≤ v 16
  · rw [if_pos d4] at h; exact absurd h (by decide)
  rw [if_neg d4] at h
  by_cases d5 : trF v c 2 * trF v c 0 / 100 < fineF v c ∨ v 14 < fineF v c
  · rw [if_pos d5] at h; exact absurd h (by decide)
  have hs := (sieve_nI hC).mp (Classical.not_not.mp d2)
  have hcs := coarse_nI hC hB (by omega)
  have hfs := fine_nI hC hB (by omega)
  have hle := csN_le (t := t) (fl := (a * t + 99) / 100) (cm := f * t / 100) (b2 := b2)
  obtain ⟨n0, n1, n2, nb⟩ := hB
  have t5 := hC.1.2.2
  generalize csN t ((a * t + 99) / 100) (f * t / 100) b2 = cs at *
  have hfl : fsN t ((a * t + 99) / 100) b1 cs ≤ t := by unfold fsN; split <;> omega
  have d6 : ¬ v 14 < fineF v c := fun z => d5 (Or.inr z)
  rw [hfs, n0, nI_ltI (by omega) (by omega)] at d6
  refine ⟨cs, _, hcs, hfs, by omega, by omega, ?_, ?_⟩
  · unfold fsN; split <;> omega
  · unfold fsN; split <;> omega
theorem Inv.deliver {v : vS} {T F C N c : Nat} (hv : Inv v T F (C + 1) N) (hc : c ≤ C) (hN : N ≤ 500000) (hr : reasonF v c = 0) : Inv (deliverF v c) T F C N := by
  obtain ⟨h1, h2, h3, h4, h5, h6⟩ := id hv
  obtain ⟨t, a, b, e, f, p, hh⟩ := h4.2.2 c (by omega)
  obtain ⟨b0, b1, b2, hB, hb⟩ := hv.bins hN
  obtain ⟨cs, fs, e1, e2, q1, q2, q3, q4⟩ := reason0 hh hB hr
  obtain ⟨n0, n1, n2, nb⟩ := hB
  have t0 := hh.1.1
  have e3 : nI t - nI fs - nI cs = nI (t - fs - cs) := by rw [pk_sub (by omega), pk_sub (by omega)]
  unfold deliverF
  rw [e1, e2, t0, n0, n1, n2, e3, pk_sub q1, pk_sub q2, pk_sub q4]
  refine Inv.drop (C := C) ?_ hc
  generalize nI t * trF v c 5 = z
  have key : ∀ j, j ≠ 14 → j ≠ 15 → j ≠ 16 → j ≠ 12 → j ≠ 11 → upd (upd (upd (upd (upd v 14 (nI (b0 - fs))) 15 (nI (b1 - (t - fs - cs)))) 16 (nI (b2 - cs))) 12 (v 12 + z)) 11 (v 11 + 1) j = v j := by
    intro j p1 p2 p3 p4 p5
    rw [upd_n p5, upd_n p4, upd_n p3, upd_n p2, upd_n p1]
  obtain ⟨⟨y, w1, w2⟩, -, hst⟩ := h3
  refine ⟨h1.keep (key _ (by omega) (by omega) (by omega) (by omega) (by omega)) (key _ (by omega) (by omega) (by omega) (by omega) (by omega)) (fun j _ _ => key j (by omega) (by omega) (by omega) (by omega) (by omega)), h2.keep (fun j _ _ => key j (by omega) (by omega) (by omega) (by omega) (by omega)), ⟨⟨y, by rw [key _ (by omega) (by omega) (by omega) (by omega) (by omega)]; exact w1, w2⟩, ⟨b0 - fs, b1 - (t - fs - cs), b2 - cs, ?_, ?_, ?_, by omega⟩, fun i i1 i9 => ?_⟩, h4.keep (key _ (by omega) (by omega) (by omega) (by omega) (by omega)) (fun j _ _ => key j (by omega) (by omega) (by omega) (by omega) (by omega)), h5.keep h1.2.2.2.1 (fun j _ _ => key j (by omega) (by omega) (by omega) (by omega) (by omega)), h6.keep (fun j _ _ => key j (by omega) (by omega) (by omega) (by omega) (by omega))⟩
  · rw [upd_n (by omega), upd_n (by omega), upd_n (by omega), upd_n (by omega), upd_s]
  · rw [upd_n (by omega), upd_n (by omega), upd_n (by omega), upd_s]
  · rw [upd_n (by omega), upd_n (by omega), upd_s]
  · obtain ⟨s2, r1, r2⟩ := hst i i1 i9
    exact ⟨s2, by rw [key _ (by omega) (by omega) (by omega) (by omega) (by omega)]; exact r1, r2⟩
