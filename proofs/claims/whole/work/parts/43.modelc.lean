/-! ===== the reference's contracts ===== -/
theorem fb_rng (x : Int32) : -2147483648 ≤ x.toInt ∧ x.toInt < 2147483648 := by
  have h1 := Int32.le_toInt x
  have h2 := Int32.toInt_lt x
  omega
theorem fb_bmod {z : Int} (h1 : -2147483648 ≤ z) (h2 : z < 2147483648) : z.bmod (2 ^ 32) = z := by
  rw [Int.bmod_eq_of_le (by omega) (by omega)]
theorem fb_addI {x y : Int32} (h1 : -2147483648 ≤ x.toInt + y.toInt) (h2 : x.toInt + y.toInt < 2147483648) : (x + y).toInt = x.toInt + y.toInt := by
  rw [Int32.toInt_add, fb_bmod h1 h2]
theorem fb_subI {x y : Int32} (h1 : -2147483648 ≤ x.toInt - y.toInt) (h2 : x.toInt - y.toInt < 2147483648) : (x - y).toInt = x.toInt - y.toInt := by
  rw [Int32.toInt_sub, fb_bmod h1 h2]
theorem fb_mulI {x y : Int32} (h1 : -2147483648 ≤ x.toInt * y.toInt) (h2 : x.toInt * y.toInt < 2147483648) : (x * y).toInt = x.toInt * y.toInt := by
  rw [Int32.toInt_mul, fb_bmod h1 h2]
theorem lt_I {x y : Int32} : x < y ↔ x.toInt < y.toInt := Int32.lt_iff_toInt_lt
theorem le_I {x y : Int32} : x ≤ y ↔ x.toInt ≤ y.toInt := Int32.le_iff_toInt_le
theorem hun {a t : Nat} (ha : a ≤ 100) (ht : t ≤ 500) : nI a * nI t / 100 = nI (a * t / 100) := by
  have h : a * t ≤ 100 * 500 := Nat.mul_le_mul ha ht
  rw [pk_mul, show (100 : Int32) = nI 100 from rfl, pk_div (by omega) (by omega) (by omega)]
theorem upF_nI {a t : Nat} (ha : a ≤ 100) (ht : t ≤ 500) : upF (nI a) (nI t) = nI ((a * t + 99) / 100) := by
  have h : a * t ≤ 100 * 500 := Nat.mul_le_mul ha ht
  unfold upF
  rw [pk_mul, show (99 : Int32) = nI 99 from rfl, nI_add, show (100 : Int32) = nI 100 from rfl, pk_div (by omega) (by omega) (by omega)]
/-- the terms of a contract as natural numbers -/
def cnOk (v : vS) (c t a b e f p : Nat) : Prop := (trF v c 0 = nI t ∧ 1 ≤ t ∧ t ≤ 500) ∧ (trF v c 1 = nI a ∧ trF v c 2 = nI b ∧ a ≤ b ∧ b ≤ 100) ∧ (trF v c 3 = nI e ∧ trF v c 4 = nI f ∧ e ≤ f ∧ f ≤ 100) ∧ trF v c 5 = nI p ∧ p ≤ 99
/-- the bins as natural numbers -/
def bnOk (v : vS) (b0 b1 b2 : Nat) : Prop := v 14 = nI b0 ∧ v 15 = nI b1 ∧ v 16 = nI b2 ∧ b0 + b1 + b2 < 2 ^ 30
theorem blends_l {k : Int32 → qS → Prop} {q : qS} {c : Nat} {x2 x4 : Int32} {t fl cl m b1 b2 cm cs fs : Int} (hc : c < 12)
    (ht : x2.toInt = t) (hfl : (upF (trF (q 1) c 1) x2).toInt = fl) {x3 : Int32} (hcl : x3.toInt = cl) (hm : x4.toInt = m) (hb1 : (q 1 15).toInt = b1) (hb2 : (q 1 16).toInt = b2)
    (r1 : 0 ≤ t ∧ t ≤ 500) (r2 : 0 ≤ fl ∧ fl ≤ 600) (r3 : 0 ≤ cl ∧ cl ≤ 600) (r4 : 0 ≤ b1 ∧ b1 < 1073741824) (r5 : 0 ≤ b2 ∧ b2 < 1073741824) (r6 : 0 ≤ cm ∧ cm ≤ 500)
    (s1 : cs ≤ cm) (s2 : cs ≤ b2) (s3 : cs ≤ t - fl) (s4 : cs = cm ∨ cs = b2 ∨ cs = t - fl) (s5 : cl ≤ cs) (f1 : fl ≤ fs) (f2 : t - cs - b1 ≤ fs) (f3 : fs = fl ∨ fs = t - cs - b1) :
    (fs ≤ m → ∀ (fz cz : Int32), fz.toInt = fs → cz.toInt = cs → k 1 (up2 (up2 q 0 9 fz) 0 10 cz) → ∀ (d n : Nat) (x5 : Int32), x5.toInt = cs + d → x5.toInt ≤ cm → d < n → wX10_blends_b70 k n q (nI c) x2 x3 x4 x5) ∧
    (¬ fs ≤ m → k 0 q → ∀ (d n : Nat) (x5 : Int32), x5.toInt = cl - 1 + d → x5.toInt ≤ cm → d < n → wX10_blends_b70 k n q (nI c) x2 x3 x4 x5) := by
  have hm1 : ((-1 : Int32)).toInt = -1 := by decide
  have step : ∀ (kb : qS → Int32 → Int32 → Int32 → Int32 → Int32 → Prop) (x5 z0 : Int32), 0 ≤ x5.toInt → x5.toInt ≤ cm → z0.toInt = (if t - x5.toInt - b1 ≤ fl then fl else t - x5.toInt - b1) →
      ((b2 < x5.toInt ∨ m < z0.toInt ∨ t - x5.toInt < z0.toInt) → ∀ y : Int32, y.toInt = x5.toInt - 1 → kb q (nI c) x2 x3 x4 y) → (x5.toInt ≤ cs → fs ≤ m → x5.toInt ≤ cs → z0.toInt ≤ m → k 1 (up2 (up2 q 0 9 z0) 0 10 x5)) → wX10_blends_b124 k kb q (nI c) x2 x3 x4 x5 (x2 - x5) z0 := by
    intro kb x5 z0 g0 g1 gz hnext hfound
    have gy : (x2 - x5).toInt = t - x5.toInt := by rw [fb_subI (by omega) (by omega), ht]
    have hn : (b2 < x5.toInt ∨ m < z0.toInt ∨ t - x5.toInt < z0.toInt) → ∀ y : Int32, y = x5 + (-1) → kb q (nI c) x2 x3 x4 y := fun hd y ey => hnext hd y (by rw [ey, fb_addI (by rw [hm1]; omega) (by rw [hm1]; omega), hm1]; omega)
    unfold wX10_blends_b124 wX10_blends_b166
    refine ⟨fun c1 => hn (Or.inl (by rw [lt_I, hb2] at c1; exact c1)), fun c1 => ⟨fun c2 => hn (Or.inr (Or.inl (by rw [lt_I, hm] at c2; exact c2))), fun c2 => ⟨fun c3 => hn (Or.inr (Or.inr (by rw [lt_I, gy] at c3; exact c3))), fun c3 q2 e2 q3 e3 => ?_⟩⟩⟩
    rw [lt_I] at c1 c2 c3
    rw [hb2] at c1; rw [hm] at c2; rw [gy] at c3
    rw [e3, e2]
    by_cases u : t - x5.toInt - b1 ≤ fl
    · rw [if_pos u] at gz
      exact hfound (by omega) (by omega) (by omega) (by omega)
    · rw [if_neg u] at gz
      exact hfound (by omega) (by omega) (by omega) (by omega)
  have body : ∀ (n : Nat) (x5 : Int32), cl ≤ x5.toInt → x5.toInt ≤ cm → (¬ (x5.toInt = cs ∧ fs ≤ m) → ∀ y : Int32, y.toInt = x5.toInt - 1 → wX10_blends_b70 k n q (nI c) x2 x3 x4 y) → (∀ z0 : Int32, z0.toInt = (if t - x5.toInt - b1 ≤ fl then fl else t - x5.toInt - b1) → x5.toInt ≤ cs → fs ≤ m → z0.toInt ≤ m → k 1 (up2 (up2 q 0 9 z0) 0 10 x5)) → wX10_blends_b70 k (n + 1) q (nI c) x2 x3 x4 x5 := by
    intro n x5 g0 g1 hnext hfound
    have gy : (x2 - x5).toInt = t - x5.toInt := by rw [fb_subI (by omega) (by omega), ht]
    have gw : (x2 - x5 - q 1 15).toInt = t - x5.toInt - b1 := by rw [fb_subI (by omega) (by omega), gy, hb1]
    unfold wX10_blends_b70
    refine ⟨fun c1 => ?_, fun c1 y4 e4 => ?_⟩
    · rw [lt_I, hcl] at c1; omega
    · subst e4
      refine e_asks c 1 (by omega) (e_up ⟨fun c2 => ?_, fun c2 => ?_⟩)
      · rw [le_I, gw, hfl] at c2
        exact step _ x5 _ (by omega) g1 (by rw [if_pos c2]; exact hfl) (fun hd => hnext (fun hz => by rw [hfl] at hd; omega)) (fun a1 a2 _ a4 => hfound _ (by rw [if_pos c2]; exact hfl) a1 a2 a4)
      · rw [le_I, gw, hfl] at c2
        exact step _ x5 _ (by omega) g1 (by rw [if_neg c2]; exact gw) (fun hd => hnext (fun hz => by rw [gw] at hd; omega)) (fun a1 a2 _ a4 => hfound _ (by rw [if_neg c2]; exact gw) a1 a2 a4)
  refine ⟨fun hR fz cz hfz hcz hk => ?_, fun hR hk => ?_⟩
  · intro d
    induction d with
    | zero =>
      intro n x5 hx hxm hn
      obtain ⟨n, rfl⟩ : ∃ m, n = m + 1 := ⟨n - 1, by omega⟩
      refine body n x5 (by omega) hxm (fun hne => absurd ⟨by omega, hR⟩ hne) (fun z0 hz a1 a2 a4 => ?_)
      have e1 : z0 = fz := Int32.toInt_inj.mp (by rw [hz, hfz]; split <;> omega)
      have e2 : x5 = cz := Int32.toInt_inj.mp (by rw [hcz]; omega)
      rw [e1, e2]
      exact hk
    | succ d ih =>
      intro n x5 hx hxm hn
      obtain ⟨n, rfl⟩ : ∃ m, n = m + 1 := ⟨n - 1, by omega⟩
      exact body n x5 (by omega) hxm (fun _ y hy => ih n y (by omega) (by omega) (by omega)) (fun z0 hz a1 a2 a4 => by omega)
  · intro d
    induction d with
    | zero =>
      intro n x5 hx hxm hn
      obtain ⟨n, rfl⟩ : ∃ m, n = m + 1 := ⟨n - 1, by omega⟩
      unfold wX10_blends_b70
      exact ⟨fun _ => hk, fun c1 => absurd (by rw [lt_I, hcl]; omega) c1⟩
    | succ d ih =>
      intro n x5 hx hxm hn
      obtain ⟨n, rfl⟩ : ∃ m, n = m + 1 := ⟨n - 1, by omega⟩
      exact body n x5 (by omega) hxm (fun _ y hy => ih n y (by omega) (by omega) (by omega)) (fun z0 hz a1 a2 a4 => absurd a2 hR)
/-- the blend by rule in natural numbers: coarse tonnes, fine tonnes -/
def csN (t fl cm b2 : Nat) : Nat := if t - fl < (if b2 < cm then b2 else cm) then t - fl else if b2 < cm then b2 else cm
def fsN (t fl b1 cs : Nat) : Nat := if fl + cs + b1 < t then t - cs - b1 else fl
theorem coarse_nI {v : vS} {c t a b e f p b0 b1 b2 : Nat} (hC : cnOk v c t a b e f p) (hB : bnOk v b0 b1 b2) (hfl : (a * t + 99) / 100 ≤ t) : coarseF v c = nI (csN t ((a * t + 99) / 100) (f * t / 100) b2) := by
  obtain ⟨⟨t0, t1, t5⟩, ⟨a0, b0', ab, bh⟩, ⟨e0, f0, ef, fh⟩, -⟩ := hC
  obtain ⟨n0, n1, n2, nb⟩ := hB
  have hf : f * t ≤ 100 * 500 := Nat.mul_le_mul fh t5
  have h1 : (if v 16 < trF v c 4 * trF v c 0 / 100 then v 16 else trF v c 4 * trF v c 0 / 100) = nI (if b2 < f * t / 100 then b2 else f * t / 100) := by
    rw [f0, t0, n2, hun fh t5]
    by_cases h : b2 < f * t / 100
    · rw [if_pos h, if_pos ((nI_ltI (by omega) (by omega)).mpr h)]
    · rw [if_neg h, if_neg (fun z => h ((nI_ltI (by omega) (by omega)).mp z))]
  unfold coarseF csN
  simp only [h1]
  rw [a0, t0, upF_nI (by omega) t5, pk_sub hfl]
  have hm : (if b2 < f * t / 100 then b2 else f * t / 100) < 2 ^ 31 := by split <;> omega
  generalize (if b2 < f * t / 100 then b2 else f * t / 100) = m at hm ⊢
  by_cases h : t - (a * t + 99) / 100 < m
  · rw [if_pos h, if_pos ((nI_ltI (by omega) (by omega)).mpr h)]
  · rw [if_neg h, if_neg (fun z => h ((nI_ltI (by omega) (by omega)).mp z))]
theorem csN_le {t fl cm b2 : Nat} : csN t fl cm b2 ≤ cm ∧ csN t fl cm b2 ≤ b2 ∧ csN t fl cm b2 ≤ t - fl ∧ (csN t fl cm b2 = cm ∨ csN t fl cm b2 = b2 ∨ csN t fl cm b2 = t - fl) := by
  unfold csN; repeat' split
  all_goals omega
theorem fine_nI {v : vS} {c t a b e f p b0 b1 b2 : Nat} (hC : cnOk v c t a b e f p) (hB : bnOk v b0 b1 b2) (hfl : (a * t + 99) / 100 ≤ t) : fineF v c = nI (fsN t ((a * t + 99) / 100) b1 (csN t ((a * t + 99) / 100) (f * t / 100) b2)) := by
  have hcs := coarse_nI hC hB hfl
  obtain ⟨⟨t0, t1, t5⟩, ⟨a0, b0', ab, bh⟩, ⟨e0, f0, ef, fh⟩, -⟩ := hC
  obtain ⟨n0, n1, n2, nb⟩ := hB
  have hle := csN_le (t := t) (fl := (a * t + 99) / 100) (cm := f * t / 100) (b2 := b2)
  generalize csN t ((a * t + 99) / 100) (f * t / 100) b2 = cs at hcs hle ⊢
  unfold fineF
  simp only []
  rw [hcs, a0, t0, n1, upF_nI (by omega) t5]
  generalize (a * t + 99) / 100 = fl at hfl hle ⊢
  have hm : (nI t - nI cs - nI b1).toInt = (t : Int) - cs - b1 := by
    have h1 := pk_sub_toInt (a := t) (b := cs) (by omega) (by omega)
    have h2 := nI_toInt (n := b1) (by omega)
    rw [fb_subI (by omega) (by omega), h1, h2]
  unfold fsN
  by_cases h : fl + cs + b1 < t
  · rw [if_pos (by rw [lt_I, hm, nI_toInt (by omega)]; omega), if_pos h]
    exact Int32.toInt_inj.mp (by rw [hm, nI_toInt (by omega)]; omega)
  · rw [if_neg (by rw [lt_I, hm, nI_toInt (by omega)]; omega), if_neg h]
theorem e_blends {k : Int32 → qS → Prop} {q : qS} {c t a b e f p b0 b1 b2 : Nat} (hc : c < 12) (hC : cnOk (q 1) c t a b e f p) (hB : bnOk (q 1) b0 b1 b2)
    (s1 : (a * t + 99) / 100 + (e * t + 99) / 100 ≤ t) (s2 : (e * t + 99) / 100 ≤ f * t / 100) (s4 : (e * t + 99) / 100 ≤ b2)
    (hk0 : (trF (q 1) c 2 * trF (q 1) c 0 / 100 < fineF (q 1) c ∨ q 1 14 < fineF (q 1) c) → k 0 q)
    (hk1 : ¬ (trF (q 1) c 2 * trF (q 1) c 0 / 100 < fineF (q 1) c ∨ q 1 14 < fineF (q 1) c) → k 1 (up2 (up2 q 0 9 (fineF (q 1) c)) 0 10 (coarseF (q 1) c))) : wX10_blends k q (nI c) := by
  have hcs := coarse_nI hC hB (by omega)
  have hfs := fine_nI hC hB (by omega)
  obtain ⟨⟨t0, t1, t5⟩, ⟨a0, b0', ab, bh⟩, ⟨e0, f0, ef, fh⟩, -⟩ := hC
  obtain ⟨n0, n1, n2, nb⟩ := hB
  have hle := csN_le (t := t) (fl := (a * t + 99) / 100) (cm := f * t / 100) (b2 := b2)
  have hfl : (upF (trF (q 1) c 1) (trF (q 1) c 0)).toInt = (((a * t + 99) / 100 : Nat) : Int) := by rw [a0, t0, upF_nI (by omega) t5, nI_toInt (by omega)]
  have hcl : (upF (trF (q 1) c 3) (trF (q 1) c 0)).toInt = (((e * t + 99) / 100 : Nat) : Int) := by rw [e0, t0, upF_nI (by omega) t5, nI_toInt (by omega)]
  have hfm : (trF (q 1) c 2 * trF (q 1) c 0 / 100).toInt = ((b * t / 100 : Nat) : Int) := by rw [b0', t0, hun bh t5, nI_toInt (by have := Nat.mul_le_mul bh t5; omega)]
  have hcm : (trF (q 1) c 4 * trF (q 1) c 0 / 100).toInt = ((f * t / 100 : Nat) : Int) := by rw [f0, t0, hun fh t5, nI_toInt (by have := Nat.mul_le_mul fh t5; omega)]
  have hT : (trF (q 1) c 0).toInt = (t : Int) := by rw [t0, nI_toInt (by omega)]
  have hB1 : (q 1 15).toInt = (b1 : Int) := by rw [n1, nI_toInt (by omega)]
  have hB2 : (q 1 16).toInt = (b2 : Int) := by rw [n2, nI_toInt (by omega)]
  have hB0 : (q 1 14).toInt = (b0 : Int) := by rw [n0, nI_toInt (by omega)]
  have mf := Nat.mul_le_mul fh t5
  have me := Nat.mul_le_mul (show e ≤ 100 by omega) t5
  have ma := Nat.mul_le_mul (show a ≤ 100 by omega) t5
  generalize (a * t + 99) / 100 = fl at *
  generalize (e * t + 99) / 100 = cl at *
  have hcm5 : f * t / 100 ≤ 500 := by omega
  generalize f * t / 100 = cm at *
  have hcsI : (coarseF (q 1) c).toInt = ((csN t fl cm b2 : Nat) : Int) := by rw [hcs, nI_toInt (by omega)]
  have hfsI : (fineF (q 1) c).toInt = ((fsN t fl b1 (csN t fl cm b2) : Nat) : Int) := by rw [hfs, nI_toInt (by unfold fsN; split <;> omega)]
  generalize csN t fl cm b2 = cs at *
  have hfsN : fl ≤ fsN t fl b1 cs ∧ ((t : Int) - cs - b1 ≤ (fsN t fl b1 cs : Nat)) ∧ (((fsN t fl b1 cs : Nat) : Int) = fl ∨ ((fsN t fl b1 cs : Nat) : Int) = (t : Int) - cs - b1) := by
    unfold fsN; split <;> omega
  generalize fsN t fl b1 cs = fs at *
  unfold wX10_blends wX10_blends_b55
  refine e_asks c 0 (by omega) (e_asks c 3 (by omega) (e_up (e_asks c 2 (by omega) ?_)))
  intro y ey
  have main : ∀ (x4 : Int32) (m : Int), x4.toInt = m → ((fs : Int) ≤ m ↔ ¬ (trF (q 1) c 2 * trF (q 1) c 0 / 100 < fineF (q 1) c ∨ q 1 14 < fineF (q 1) c)) → wX10_asks (fun (r8 : Int32) (q9 : qS) => ∀ y10 : Int32, y10 = ((r8 * trF (q 1) c 0) / (100 : Int32)) → (∃ n0 : Nat, wX10_blends_b70 k n0 q9 (nI c) (trF (q 1) c 0) (upF (trF (q 1) c 3) (trF (q 1) c 0)) x4 y10)) q (nI c) (4 : Int32) := by
    intro x4 m hx4 hiff
    refine e_asks c 4 (by omega) ?_
    intro y10 e10
    have L := blends_l (k := k) (q := q) (c := c) (x2 := trF (q 1) c 0) (x4 := x4) (t := t) (fl := fl) (cl := cl) (m := m) (b1 := b1) (b2 := b2) (cm := cm) (cs := cs) (fs := fs) hc hT hfl hcl hx4 hB1 hB2 ⟨by omega, by omega⟩ ⟨by omega, by omega⟩ ⟨by omega, by omega⟩ ⟨by omega, by omega⟩ ⟨by omega, by omega⟩ ⟨by omega, by omega⟩ (by omega) (by omega) (by omega) (by omega) (by omega) (by omega) hfsN.2.1 hfsN.2.2
    have hy : y10.toInt = (cm : Int) := by rw [e10]; exact hcm
    by_cases hR : (fs : Int) ≤ m
    · exact ⟨cm - cs + 1, L.1 hR _ _ hfsI hcsI (hk1 (hiff.mp hR)) (cm - cs) _ y10 (by omega) (by omega) (by omega)⟩
    · refine ⟨cm + 1 - cl + 1, L.2 hR (hk0 ?_) (cm + 1 - cl) _ y10 (by omega) (by omega) (by omega)⟩
      exact Classical.not_not.mp (fun z => hR (hiff.mpr z))
  subst ey
  refine ⟨fun c1 => main _ (b0 : Int) hB0 ?_, fun c1 => main _ _ hfm ?_⟩
  · rw [le_I, hB0, hfm] at c1
    rw [lt_I, lt_I, hfm, hB0, hfsI]; omega
  · rw [le_I, hB0, hfm] at c1
    rw [lt_I, lt_I, hfm, hB0, hfsI]; omega
theorem e_hasSieve {k : Int32 → qS → Prop} {q : qS} {c : Nat} (hc : c < 12) (h1 : sieveF (q 1) c → k 1 q) (h0 : ¬ sieveF (q 1) c → k 0 q) : wX10_hasSieve k q (nI c) := by
  unfold wX10_hasSieve wX10_hasSieve_b50 wX10_hasSieve_b85 wX10_hasSieve_b86
  refine e_asks c 0 (by omega) (e_asks c 1 (by omega) (e_up (e_asks c 3 (by omega) (e_up (e_asks c 2 (by omega) ⟨fun d1 => ?_, fun d1 => ?_⟩)))))
  · exact ⟨fun _ => ⟨rfl, h0 (fun z => z.1 d1)⟩, fun z => absurd rfl z⟩
  · refine ⟨fun z => absurd z (by decide), fun _ => e_asks c 4 (by omega) ⟨fun d2 => ⟨rfl, h0 (fun z => z.2.1 d2)⟩, fun d2 => ⟨fun d3 => ⟨rfl, h0 (fun z => z.2.2 d3)⟩, fun d3 => ⟨rfl, h1 ⟨d1, d2, d3⟩⟩⟩⟩⟩
theorem sieve_nI {v : vS} {c t a b e f p : Nat} (hC : cnOk v c t a b e f p) : sieveF v c ↔ ((a * t + 99) / 100 ≤ b * t / 100 ∧ (e * t + 99) / 100 ≤ f * t / 100 ∧ (a * t + 99) / 100 + (e * t + 99) / 100 ≤ t) := by
  obtain ⟨⟨t0, t1, t5⟩, ⟨a0, b0', ab, bh⟩, ⟨e0, f0, ef, fh⟩, -⟩ := hC
  have mf := Nat.mul_le_mul fh t5
  have me := Nat.mul_le_mul (show e ≤ 100 by omega) t5
  have ma := Nat.mul_le_mul (show a ≤ 100 by omega) t5
  have mb := Nat.mul_le_mul bh t5
  unfold sieveF
  rw [a0, b0', e0, f0, t0, upF_nI (by omega) t5, upF_nI (by omega) t5, hun bh t5, hun fh t5, nI_add, nI_ltI (by omega) (by omega), nI_ltI (by omega) (by omega), nI_ltI (by omega) (by omega)]
  omega
theorem e_reason {k : Int32 → qS → Prop} {q : qS} {c t a b e f p b0 b1 b2 : Nat} (hc : c < 12) (hC : cnOk (q 1) c t a b e f p) (hB : bnOk (q 1) b0 b1 b2)
    (h0 : reasonF (q 1) c = 0 → k 0 (up2 (up2 q 0 9 (fineF (q 1) c)) 0 10 (coarseF (q 1) c))) (h1 : ¬ reasonF (q 1) c = 0 → k (reasonF (q 1) c) q) : wX10_reason k q (nI c) := by
  unfold wX10_reason wX10_reason_b103
  refine e_asks c 0 (by omega) ⟨fun d1 => e_hasSieve hc (fun d2 => ?_) (fun d2 => ⟨fun z => absurd rfl z, fun _ => ?_⟩), fun d1 => ?_⟩
  · refine ⟨fun _ => e_asks c 1 (by omega) (e_up ⟨fun d3 => e_asks c 3 (by omega) (e_up ⟨fun d4 => ?_, fun d4 => ?_⟩), fun d3 => ?_⟩), fun z => absurd z (by decide)⟩
    · have hs := (sieve_nI hC).mp d2
      have d4' := d4
      obtain ⟨⟨t0, t1, t5⟩, -, ⟨e0, f0, ef, fh⟩, -⟩ := id hC
      obtain ⟨n0, n1, n2, nb⟩ := id hB
      have me := Nat.mul_le_mul (show e ≤ 100 by omega) t5
      rw [e0, t0, n2, upF_nI (by omega) t5, nI_leI (by omega) (by omega)] at d4'
      refine e_blends hc hC hB hs.2.2 hs.2.1 d4' (fun d5 => ⟨fun _ => ?_, fun z => absurd rfl z⟩) (fun d5 => ⟨fun z => absurd z (by decide), fun _ => ?_⟩)
      · have hr : reasonF (q 1) c = 5 := by unfold reasonF; rw [if_neg (fun z => z d1), if_neg (fun z => z d2), if_neg (fun z => z d3), if_neg (fun z => z d4), if_pos d5]
        rw [hr] at h1; exact h1 (by decide)
      · have hr : reasonF (q 1) c = 0 := by unfold reasonF; rw [if_neg (fun z => z d1), if_neg (fun z => z d2), if_neg (fun z => z d3), if_neg (fun z => z d4), if_neg d5]
        exact h0 hr
    · have hr : reasonF (q 1) c = 4 := by unfold reasonF; rw [if_neg (fun z => z d1), if_neg (fun z => z d2), if_neg (fun z => z d3), if_pos d4]
      rw [hr] at h1; exact h1 (by decide)
    · have hr : reasonF (q 1) c = 3 := by unfold reasonF; rw [if_neg (fun z => z d1), if_neg (fun z => z d2), if_pos d3]
      rw [hr] at h1; exact h1 (by decide)
  · have hr : reasonF (q 1) c = 2 := by unfold reasonF; rw [if_neg (fun z => z d1), if_pos d2]
    rw [hr] at h1; exact h1 (by decide)
  · have hr : reasonF (q 1) c = 1 := by unfold reasonF; rw [if_pos d1]
    rw [hr] at h1; exact h1 (by decide)
