theorem RQ_crush {q : qS} {v : vS} {T F C N h : Nat} {g z : Int32} (hq : RQ q v F C) (hv : Inv v T F C N) (h1 : 1 ≤ h) (h9 : h ≤ 9) : RQ (up2 (up2 (up2 (up2 (up2 (up2 q 10 h (v (16 + h) - z)) 11 0 (v 14 + z * (10 - g) * (10 - nI h) / 100)) 11 1 (v 15 + (z - z * (10 - g) * (10 - nI h) / 100 - z * g * nI h / 100))) 11 2 (v 16 + z * g * nI h / 100)) 0 6 (v 10 + z * nI h)) 0 7 (v 9 + z)) (crushF v h g z) F C := by
  obtain ⟨hS, h0, hB, hFF, hTT, hC⟩ := hq
  have hF8 := hv.1.2.2.2.1
  have hC12 := hv.2.2.2.1.2.1
  have hkp : kp v (crushF v h g z) := kp_crush h1 h9
  have khi : ∀ j, 26 ≤ j → crushF v h g z j = v j := by
    intro j hj
    unfold crushF
    rw [upd_n (by omega), upd_n (by omega), upd_n (by omega), upd_n (by omega), upd_n (by omega), upd_n (by omega)]
  have k13 : crushF v h g z 13 = v 13 := by unfold crushF; rw [upd_n (by omega), upd_n (by omega), upd_n (by omega), upd_n (by omega), upd_n (by omega), upd_n (by omega)]
  have k9 : crushF v h g z 9 = v 9 + z := by unfold crushF; rw [upd_n (by omega), upd_s]
  have k10 : crushF v h g z 10 = v 10 + z * nI h := by unfold crushF; rw [upd_s]
  have k14 : crushF v h g z 14 = v 14 + z * (10 - g) * (10 - nI h) / 100 := by unfold crushF; rw [upd_n (by omega), upd_n (by omega), upd_n (by omega), upd_n (by omega), upd_s]
  have k15 : crushF v h g z 15 = v 15 + (z - z * (10 - g) * (10 - nI h) / 100 - z * g * nI h / 100) := by unfold crushF; rw [upd_n (by omega), upd_n (by omega), upd_n (by omega), upd_s]
  have k16 : crushF v h g z 16 = v 16 + z * g * nI h / 100 := by unfold crushF; rw [upd_n (by omega), upd_n (by omega), upd_s]
  have kh : crushF v h g z (16 + h) = v (16 + h) - z := by unfold crushF; rw [upd_n (by omega), upd_n (by omega), upd_n (by omega), upd_n (by omega), upd_n (by omega), upd_s]
  have ko : ∀ i, 1 ≤ i → i ≤ 9 → i ≠ h → crushF v h g z (16 + i) = v (16 + i) := by
    intro i i1 i9 hi
    unfold crushF
    rw [upd_n (by omega), upd_n (by omega), upd_n (by omega), upd_n (by omega), upd_n (by omega), upd_n (by omega)]
  generalize crushF v h g z = w at *
  generalize z * (10 - g) * (10 - nI h) / 100 = fi at *
  generalize z * g * nI h / 100 = cu at *
  generalize hm : z - fi - cu = mi at *
  generalize z * nI h = zw at *
  have n1 : (11 : Nat) ≠ 10 := by decide
  have n2 : (0 : Nat) ≠ 10 := by decide
  have n3 : (0 : Nat) ≠ 11 := by decide
  have g0 : up2 (up2 (up2 (up2 (up2 (up2 q 10 h (v (16 + h) - z)) 11 0 (v 14 + fi)) 11 1 (v 15 + mi)) 11 2 (v 16 + cu)) 0 6 (v 10 + zw)) 0 7 (v 9 + z) 0 = upd (upd (q 0) 6 (v 10 + zw)) 7 (v 9 + z) := by
    simp only [up2_A, upA_s, upA_n n2, upA_n n3]
  have g10 : up2 (up2 (up2 (up2 (up2 (up2 q 10 h (v (16 + h) - z)) 11 0 (v 14 + fi)) 11 1 (v 15 + mi)) 11 2 (v 16 + cu)) 0 6 (v 10 + zw)) 0 7 (v 9 + z) 10 = upd (q 10) h (v (16 + h) - z) := by
    rw [up2_A, upA_n (by decide), up2_A, upA_n (by decide), up2_A, upA_n (by decide), up2_A, upA_n (by decide), up2_A, upA_n (by decide), up2_A, upA_s]
  have g11 : up2 (up2 (up2 (up2 (up2 (up2 q 10 h (v (16 + h) - z)) 11 0 (v 14 + fi)) 11 1 (v 15 + mi)) 11 2 (v 16 + cu)) 0 6 (v 10 + zw)) 0 7 (v 9 + z) 11 = upd (upd (upd (q 11) 0 (v 14 + fi)) 1 (v 15 + mi)) 2 (v 16 + cu) := by
    rw [up2_A, upA_n (by decide), up2_A, upA_n (by decide)]
    simp only [up2_A, upA_s, upA_n n1]
  have gn : ∀ i, i ≠ 0 → i ≠ 10 → i ≠ 11 → up2 (up2 (up2 (up2 (up2 (up2 q 10 h (v (16 + h) - z)) 11 0 (v 14 + fi)) 11 1 (v 15 + mi)) 11 2 (v 16 + cu)) 0 6 (v 10 + zw)) 0 7 (v 9 + z) i = q i := by
    intro i a b c
    rw [up2_A, upA_n a, up2_A, upA_n a, up2_A, upA_n c, up2_A, upA_n c, up2_A, upA_n c, up2_A, upA_n b]
  generalize up2 (up2 (up2 (up2 (up2 (up2 q 10 h (v (16 + h) - z)) 11 0 (v 14 + fi)) 11 1 (v 15 + mi)) 11 2 (v 16 + cu)) 0 6 (v 10 + zw)) 0 7 (v 9 + z) = r at *
  refine ⟨hS.k (gn 1 (by decide) (by decide) (by decide)) (fun j hj => hkp j (by omega)), ?_, ⟨fun i hi => ?_, fun i i1 i9 => ?_⟩, hFF.k hF8 (gn 2 (by decide) (by decide) (by decide)) (gn 3 (by decide) (by decide) (by decide)) (gn 4 (by decide) (by decide) (by decide)) (gn 5 (by decide) (by decide) (by decide)) (fun j a _ => khi j a), hTT.k (gn 6 (by decide) (by decide) (by decide)) (gn 7 (by decide) (by decide) (by decide)) (gn 8 (by decide) (by decide) (by decide)) (gn 9 (by decide) (by decide) (by decide)) (fun j a _ => khi j (by omega)), hC.k hC12 (gn 12 (by decide) (by decide) (by decide)) (fun j a _ => khi j (by omega))⟩
  · obtain ⟨b1, b2, b3, b4, b5, b6, b7, b8⟩ := h0
    unfold r0
    rw [g0, hkp 6 (by omega), hkp 7 (by omega), hkp 8 (by omega), k9, k10, hkp 11 (by omega), hkp 12 (by omega), k13, upd_n (by omega), upd_n (by omega), upd_n (by omega), upd_n (by omega), upd_n (by omega), upd_n (by omega), upd_s, upd_n (by omega : 6 ≠ 7), upd_s, upd_n (by omega), upd_n (by omega), upd_n (by omega), upd_n (by omega), upd_n (by omega), upd_n (by omega)]
    exact ⟨b1, b2, b3, rfl, rfl, b6, b7, b8⟩
  · rw [g11]
    rcases (show i = 0 ∨ i = 1 ∨ i = 2 by omega) with rfl | rfl | rfl
    · rw [upd_n (by omega), upd_n (by omega), upd_s]; exact k14.symm
    · rw [upd_n (by omega), upd_s]; exact k15.symm
    · rw [upd_s]; exact k16.symm
  · rw [g10]
    by_cases e : i = h
    · subst e; rw [upd_s, kh]
    · rw [upd_n e, ko i i1 i9 e]; exact hB.2 i i1 i9
theorem crushL_0 {T F C N G : Nat} : ∀ (d h : Nat) (v : vS), Inv v T F C N → 1 ≤ h → h + d ≤ 10 → N ≤ 500000 → crushL (nI G) d h v (nI 0) = v
  | 0, _, _, _, _, _, _ => rfl
  | d + 1, h, v, hv, h1, h2, hN => by
    obtain ⟨s, s1, s2⟩ := hv.2.2.1.2.2 h h1 (by omega)
    unfold crushL
    rw [if_pos (by rw [s1]; exact nI_le (by omega) (by omega))]
    have e : crushF v h (nI G) (nI 0) = v := by
      have zz : ∀ x : Int32, (0 : Int32) * x = 0 := fun x => Int32.zero_mul
      have hz : nI 0 = (0 : Int32) := rfl
      have h0 : (0 : Int32) / 100 = 0 := by decide
      unfold crushF
      simp only [hz, zz, h0, Int32.sub_zero, Int32.add_zero]
      funext j
      unfold upd
      repeat' split
      all_goals first | rfl | (rename_i e; subst e; rfl) | simp_all
    rw [e, show nI 0 - nI 0 = nI 0 from by rw [pk_sub (Nat.le_refl 0)]]
    exact crushL_0 d (h + 1) v hv (by omega) (by omega) hN
theorem c_crush_l {k : qS → Prop} {T F C G : Nat} (hG : 1 ≤ G ∧ G ≤ 9) : ∀ (d h n N l : Nat) (q : qS) (v : vS), RQ q v F C → Inv v T F C N → N + d ≤ 500000 → 1 ≤ h → h + d = 10 → d < n → l ≤ 200 → (∀ r, RQ r (crushL (nI G) d h v (nI l)) F C → k r) → wX2_crushForAnHour_b9 k n q (nI G) (nI l) (nI h) := by
  intro d
  induction d with
  | zero =>
    intro h n N l q v hq hv hN h1 h2 hn hl hk
    obtain ⟨n, rfl⟩ : ∃ m, n = m + 1 := ⟨n - 1, by omega⟩
    unfold wX2_crushForAnHour_b9 wX2_crushForAnHour_b53
    exact pk_lt 9 h (fun _ => hk q hq) (fun c => by omega) rfl rfl (by omega) (by omega)
  | succ d ih =>
    intro h n N l q v hq hv hN h1 h2 hn hl hk
    obtain ⟨n, rfl⟩ : ∃ m, n = m + 1 := ⟨n - 1, by omega⟩
    obtain ⟨s, s1, s2⟩ := hv.2.2.1.2.2 h h1 (by omega)
    have ch : Int32.toNatClampNeg (nI h) = h := nI_clamp (by omega)
    have v10 : vp_in (nI h) 10 := vp_in_nI (by omega) (by omega)
    obtain ⟨hS, h0, hB, hFF, hTT, hC⟩ := id hq
    unfold wX2_crushForAnHour_b9 wX2_crushForAnHour_b53
    refine pk_lt 9 h (fun c => by omega) (fun _ => ⟨fun c => ?_, fun c => ⟨v10, fun y1 e1 y2 e2 => ?_⟩⟩) rfl rfl (by omega) (by omega)
    · rw [nI_le0 (by omega)] at c
      subst c
      rw [crushL_0 (d + 1) h v hv h1 (by omega) (by omega)] at hk
      exact hk q hq
    · rw [ch, hB.2 h h1 (by omega), min_le] at e1
      rw [crushL] at hk
      rw [← e1] at hk
      have em : y1 = nI (if l ≤ s then l else s) := by
        rw [e1, s1]
        by_cases c : l ≤ s
        · rw [if_pos c, if_pos ((nI_leI (by omega) (by omega)).mpr c)]
        · rw [if_neg c, if_neg (fun q => c ((nI_leI (by omega) (by omega)).mp q))]
      have hm : (if l ≤ s then l else s) ≤ s ∧ (if l ≤ s then l else s) ≤ l := by split <;> omega
      generalize (if l ≤ s then l else s) = m at em hm
      unfold wX2_crush
      refine c_in (fun _ => ⟨fun _ => ?_, fun y => absurd y (by decide)⟩) (fun y => absurd (isIn_nI (a := 1) (b := 9) (by omega) (by omega) (by omega) (by omega)) y)
      rw [ch]
      intro a2 d2 a3 d3
      refine ⟨v10, fun a4 d4 => ⟨v10, fun p5 d5 a6 d6 p7 d7 a8 d8 p9 d9 a10 d10 p11 d11 a12 d12 p13 d13 a14 d14 p15 d15 y5 e5 => ?_⟩⟩
      have n1 : (11 : Nat) ≠ 10 := by decide
      have n2 : (0 : Nat) ≠ 10 := by decide
      have n3 : (0 : Nat) ≠ 11 := by decide
      have u1 : ∀ {f : Nat → Int32} {x : Int32}, upd f 0 x 1 = f 1 := fun {f x} => upd_n (by omega)
      have u2 : ∀ {f : Nat → Int32} {x : Int32}, upd f 0 x 2 = f 2 := fun {f x} => upd_n (by omega)
      have u3 : ∀ {f : Nat → Int32} {x : Int32}, upd f 1 x 2 = f 2 := fun {f x} => upd_n (by omega)
      have u4 : ∀ {f : Nat → Int32} {x : Int32}, upd f 6 x 7 = f 7 := fun {f x} => upd_n (by omega)
      have b0 := hB.1 0 (by omega)
      have b1 := hB.1 1 (by omega)
      have b2 := hB.1 2 (by omega)
      have X := RQ_crush (g := nI G) (z := y1) hq hv h1 (by omega : h ≤ 9)
      have ep : p15 = up2 (up2 (up2 (up2 (up2 (up2 q 10 h (v (16 + h) - y1)) 11 0 (v 14 + y1 * (10 - nI G) * (10 - nI h) / 100)) 11 1 (v 15 + (y1 - y1 * (10 - nI G) * (10 - nI h) / 100 - y1 * nI G * nI h / 100))) 11 2 (v 16 + y1 * nI G * nI h / 100)) 0 6 (v 10 + y1 * nI h)) 0 7 (v 9 + y1) := by
        have f4 : a4 = v (16 + h) - y1 := by rw [d4, hB.2 h h1 (by omega)]
        have f6 : a6 = v 14 + a2 := by rw [d6, d5, up2_A, upA_n n1, b0]
        have f8 : a8 = v 15 + (y1 - a2 - a3) := by rw [d8, d7, d5]; simp only [up2_A, upA_s, upA_n n1, u1]; rw [b1]
        have f10 : a10 = v 16 + a3 := by rw [d10, d9, d7, d5]; simp only [up2_A, upA_s, upA_n n1, u1, u2, u3]; rw [b2]
        have f12 : a12 = v 10 + y1 * nI h := by rw [d12, d11, d9, d7, d5]; simp only [up2_A, upA_n n2, upA_n n3]; rw [h0.2.2.2.2.1]
        have f14 : a14 = v 9 + y1 := by rw [d14, d13, d11, d9, d7, d5]; simp only [up2_A, upA_s, upA_n n2, upA_n n3, u4]; rw [h0.2.2.2.1]
        rw [d15, d13, d11, d9, d7, d5, f14, f12, f10, f8, f6, f4, d2, d3]
      rw [e5, nI_1, e2, ep]
      have hv2 : Inv (crushF v h (nI G) y1) T F C (N + 1) := by rw [em]; exact hv.crush ⟨h1, by omega⟩ s1 s2 hm.1 (by omega) hG
      have el : nI l - y1 = nI (l - m) := by rw [em, pk_sub hm.2]
      rw [el] at hk ⊢
      exact ih (h + 1) n (N + 1) (l - m) _ _ X hv2 (by omega) (by omega) (by omega) (by omega) (by omega) hk
/-- the tonnes of an hour, as the class reckons them -/
theorem c_capacity {k : Int32 → qS → Prop} {q : qS} {v : vS} {F C : Nat} (hq : RQ q v F C) (hk : k (capF v) q) : wX2_tonnesInAnHour k q (q 1 4) := by
  unfold wX2_tonnesInAnHour
  intro y ey
  have e : y = capF v := by
    rw [ey, hq.1 4 (by omega), hq.2.1.2.2.2.2.1]
    unfold capF
    by_cases c : 1 < v 4 - v 10 / 1000
    · rw [if_pos c, if_pos (by rw [lt_I] at c; rw [le_I]; omega)]
    · rw [if_neg c]
      by_cases c2 : 1 ≤ v 4 - v 10 / 1000
      · rw [if_pos c2]
        exact Int32.toInt_inj.mp (by rw [lt_I] at c; rw [le_I] at c2; omega)
      · rw [if_neg c2]
  rw [e]; exact hk
theorem c_crushHour {k : qS → Prop} {T F C N : Nat} {q : qS} {v : vS} (hq : RQ q v F C) (hv : Inv v T F C N) (hN : N + 9 ≤ 500000) (h : ∀ r, RQ r (crushL (v 3) 9 1 v (capF v)) F C → k r) : wX2_crushForAnHour k q (q 1 3) (q 1 4) := by
  obtain ⟨l, l1, l2, l3⟩ := cap_nI hv (by omega)
  obtain ⟨L, H, g, kk, o, -, -, -, -, g1, g2, -⟩ := hv.2.1
  unfold wX2_crushForAnHour
  refine c_capacity hq ⟨10, ?_⟩
  rw [hq.1 3 (by omega), g1, l1]
  rw [g1, l1] at h
  exact c_crush_l g2 9 1 10 N l q v hq hv (by omega) (by omega) (by omega) (by omega) l3 h
