/-! ===== the reference's hour ===== -/
theorem nI_le0 {a : Nat} (ha : a < 2 ^ 31) : nI a ≤ 0 ↔ a = 0 := by
  rw [show (0 : Int32) = nI 0 from rfl, nI_leI ha (by omega)]; omega
set_option maxHeartbeats 1000000 in
theorem e_comesBack {k : qS → Prop} {q : qS} {t F : Nat} (ht : t < 20) (hF8 : F ≤ 8) (ha : ∃ a, a ≤ F ∧ q 1 (58 + 4 * t) = nI a) (hh : ∀ f, f < F → ∃ x, 1 ≤ x ∧ x ≤ 9 ∧ q 1 (27 + 4 * f) = nI x) (h : k (upA q 1 (comesF (q 1) t))) : wX10_comesBack k q (nI t) := by
  have c0 : Int32.toNatClampNeg (nI (58 + 4 * t)) = 58 + 4 * t := nI_clamp (by omega)
  have c1 : Int32.toNatClampNeg (nI (59 + 4 * t)) = 59 + 4 * t := nI_clamp (by omega)
  have c2 : Int32.toNatClampNeg (nI (60 + 4 * t)) = 60 + 4 * t := nI_clamp (by omega)
  have e1 : 58 + 4 * t + 1 = 59 + 4 * t := by omega
  have e2 : 58 + 4 * t + 2 = 60 + 4 * t := by omega
  have v0 : vp_in (nI (58 + 4 * t)) 210 := vp_in_nI (by omega) (by omega)
  have v1 : vp_in (nI (59 + 4 * t)) 210 := vp_in_nI (by omega) (by omega)
  have v2 : vp_in (nI (60 + 4 * t)) 210 := vp_in_nI (by omega) (by omega)
  unfold wX10_comesBack wX10_comesBack_b97
  intro y ey
  rw [ix58] at ey
  subst ey
  simp only [ixp0, ixp1, ixp2, e1, e2, c0, c1, c2]
  unfold comesF at h
  refine ⟨v0, fun d1 => ?_, fun d1 => ⟨v2, fun d2 => ?_, fun d2 => ⟨v0, ?_⟩⟩⟩
  · rw [if_pos d1, upA_id] at h; exact h
  · rw [if_neg d1, if_pos d2, upA_id] at h; exact h
  · rw [if_neg d1, if_neg (fun z => z d2)] at h
    obtain ⟨a, ha1, ea⟩ := ha
    have ha0 : a ≠ 0 := fun z => d1 (by rw [ea, nI_le0 (by omega)]; exact z)
    obtain ⟨f, rfl⟩ : ∃ f, a = f + 1 := ⟨a - 1, by omega⟩
    obtain ⟨x, hx1, hx9, ex⟩ := hh f (by omega)
    have cf : nn (q 1 (58 + 4 * t)) - 1 = f := by rw [ea]; unfold nn; rw [nI_clamp (by omega)]; omega
    rw [cf, ex] at h
    have cx : nn (nI x) = x := nI_clamp (by omega)
    rw [cx] at h
    rw [ea, nI_pred]
    refine e_faceOf f 1 (by omega) ?_
    have e3 : 26 + 4 * f + 1 = 27 + 4 * f := by omega
    have c3 : Int32.toNatClampNeg (nI (16 + x)) = 16 + x := nI_clamp (by omega)
    have v3 : vp_in (nI (16 + x)) 210 := vp_in_nI (by omega) (by omega)
    simp only [e3, ex, ix16, c3]
    refine ⟨v3, v1, fun y4 e4 => ⟨v3, fun q5 e5 => ⟨v0, fun q6 e6 => ⟨v1, fun q7 e7 => ⟨v2, fun q8 e8 => ?_⟩⟩⟩⟩⟩
    rw [e8, e7, e6, e5, e4]
    simp only [up2_A, upA_A, upA_s]
    exact h
set_option maxHeartbeats 1000000 in
theorem e_goes59 {k : qS → Prop} {q : qS} {t f : Nat} {z : Int32} (ht : t < 20) (hf : f < 8) (h : k (upA q 1 (sendF (q 1) t f z))) : wX10_goes_b59 k q (nI f) (nI (58 + 4 * t)) z := by
  have c0 : Int32.toNatClampNeg (nI (58 + 4 * t)) = 58 + 4 * t := nI_clamp (by omega)
  have c1 : Int32.toNatClampNeg (nI (59 + 4 * t)) = 59 + 4 * t := nI_clamp (by omega)
  have c2 : Int32.toNatClampNeg (nI (60 + 4 * t)) = 60 + 4 * t := nI_clamp (by omega)
  have c3 : Int32.toNatClampNeg (nI (61 + 4 * t)) = 61 + 4 * t := nI_clamp (by omega)
  have e1 : 58 + 4 * t + 1 = 59 + 4 * t := by omega
  have e2 : 58 + 4 * t + 2 = 60 + 4 * t := by omega
  have e3 : 58 + 4 * t + 3 = 61 + 4 * t := by omega
  have g0 : Int32.toNatClampNeg (nI (26 + 4 * f)) = 26 + 4 * f := nI_clamp (by omega)
  have g3 : Int32.toNatClampNeg (nI (29 + 4 * f)) = 29 + 4 * f := nI_clamp (by omega)
  have e4 : 26 + 4 * f + 3 = 29 + 4 * f := by omega
  have e5 : 26 + 4 * f + 2 = 28 + 4 * f := by omega
  have v0 : vp_in (nI (58 + 4 * t)) 210 := vp_in_nI (by omega) (by omega)
  have v1 : vp_in (nI (59 + 4 * t)) 210 := vp_in_nI (by omega) (by omega)
  have v2 : vp_in (nI (60 + 4 * t)) 210 := vp_in_nI (by omega) (by omega)
  have v3 : vp_in (nI (61 + 4 * t)) 210 := vp_in_nI (by omega) (by omega)
  have w0 : vp_in (nI (26 + 4 * f)) 210 := vp_in_nI (by omega) (by omega)
  have w3 : vp_in (nI (29 + 4 * f)) 210 := vp_in_nI (by omega) (by omega)
  unfold wX10_goes_b59 wX10_goes_b175
  simp only [ix26, ixp0, ixp1, ixp2, ixp3, e1, e2, e3, e4, c0, c1, c2, c3, g0, g3]
  refine ⟨w0, fun y1 d1 => ⟨w0, fun q2 d2 => ⟨w3, fun y3 d3 => ⟨w3, fun q4 d4 y5 d5 => ⟨v0, fun q6 d6 => ⟨v1, fun q7 d7 => ?_⟩⟩⟩⟩⟩⟩
  refine e_faceOf f 2 (by omega) ?_
  intro y10 d10
  refine ⟨v2, fun q11 d11 => ⟨v3, fun y12 d12 => ⟨v3, fun q13 d13 => ?_⟩⟩⟩
  refine e_faceOf f 2 (by omega) ?_
  intro y16 d16 q17 d17
  rw [d17, d16, d13, d12, d11, d10, d7, d6, d5, d4, d3, d2, d1]
  simp only [up2_A, upA_A, upA_s, e5]
  unfold sendF at h
  have u1 : ∀ {g : Nat → Int32} {x : Int32}, upd g (26 + 4 * f) x (29 + 4 * f) = g (29 + 4 * f) := fun {g x} => upd_n (by omega)
  have u2 : ∀ {g : Nat → Int32} {x : Int32}, upd g (26 + 4 * f) x (28 + 4 * f) = g (28 + 4 * f) := fun {g x} => upd_n (by omega)
  have u3 : ∀ {g : Nat → Int32} {x : Int32}, upd g (29 + 4 * f) x (28 + 4 * f) = g (28 + 4 * f) := fun {g x} => upd_n (by omega)
  have u4 : ∀ {g : Nat → Int32} {x : Int32} {j : Nat}, upd g (58 + 4 * t) x (28 + 4 * f) = g (28 + 4 * f) := fun {g x j} => upd_n (by omega)
  have u5 : ∀ {g : Nat → Int32} {x : Int32}, upd g (59 + 4 * t) x (28 + 4 * f) = g (28 + 4 * f) := fun {g x} => upd_n (by omega)
  have u6 : ∀ {g : Nat → Int32} {x : Int32}, upd g (60 + 4 * t) x (28 + 4 * f) = g (28 + 4 * f) := fun {g x} => upd_n (by omega)
  have u7 : ∀ {g : Nat → Int32} {x : Int32}, upd g (61 + 4 * t) x (28 + 4 * f) = g (28 + 4 * f) := fun {g x} => upd_n (by omega)
  have low : ∀ {g : Nat → Int32} {x : Int32} {i j : Nat}, i < 26 → 26 ≤ j → upd g j x i = g i := fun {g x i j} a b => upd_n (by omega)
  have m1 : ∀ {g : Nat → Int32} {x : Int32} {j : Nat}, 26 ≤ j → upd g j x 6 = g 6 := fun {g x j} b => upd_n (by omega)
  have m2 : ∀ {g : Nat → Int32} {x : Int32} {j : Nat}, 26 ≤ j → upd g j x 5 = g 5 := fun {g x j} b => upd_n (by omega)
  have m3 : ∀ {g : Nat → Int32} {x : Int32} {j : Nat}, 26 ≤ j → upd g j x 13 = g 13 := fun {g x j} b => upd_n (by omega)
  have j1 : 26 ≤ 26 + 4 * f := by omega
  have j2 : 26 ≤ 29 + 4 * f := by omega
  have j3 : 26 ≤ 58 + 4 * t := by omega
  have j4 : 26 ≤ 59 + 4 * t := by omega
  have j5 : 26 ≤ 60 + 4 * t := by omega
  have j6 : 26 ≤ 61 + 4 * t := by omega
  have s1 : ∀ {g : Nat → Int32} {x : Int32}, upd g (60 + 4 * t) x (61 + 4 * t) = g (61 + 4 * t) := fun {g x} => upd_n (by omega)
  have s2 : ∀ {g : Nat → Int32} {x : Int32}, upd g (59 + 4 * t) x (61 + 4 * t) = g (61 + 4 * t) := fun {g x} => upd_n (by omega)
  have s3 : ∀ {g : Nat → Int32} {x : Int32}, upd g (58 + 4 * t) x (61 + 4 * t) = g (61 + 4 * t) := fun {g x} => upd_n (by omega)
  have s4 : ∀ {g : Nat → Int32} {x : Int32}, upd g (29 + 4 * f) x (61 + 4 * t) = g (61 + 4 * t) := fun {g x} => upd_n (by omega)
  have s5 : ∀ {g : Nat → Int32} {x : Int32}, upd g (26 + 4 * f) x (61 + 4 * t) = g (61 + 4 * t) := fun {g x} => upd_n (by omega)
  simp only [u1, u2, u3, u5, u6, u7, m1 j1, m1 j2, m1 j3, m1 j4, m2 j1, m2 j2, m2 j3, m2 j4, m2 j5, m2 j6, m3 j1, m3 j2, m3 j3, m3 j4, m3 j5, m3 j6, s1, s2, s3, s4, s5]
  have u4' : ∀ {g : Nat → Int32} {x : Int32}, upd g (58 + 4 * t) x (28 + 4 * f) = g (28 + 4 * f) := fun {g x} => upd_n (by omega)
  simp only [u2, u3, u4', u5, u6, u7]
  simp only [nI_1] at h ⊢
  exact h
theorem e_goes {k : qS → Prop} {q : qS} {t F : Nat} (ht : t < 20) (hF : q 1 7 = nI F) (hF8 : F ≤ 8) (h : k (upA q 1 (goesF (q 1) t))) : wX10_goes k q (nI t) := by
  have c0 : Int32.toNatClampNeg (nI (58 + 4 * t)) = 58 + 4 * t := nI_clamp (by omega)
  have v0 : vp_in (nI (58 + 4 * t)) 210 := vp_in_nI (by omega) (by omega)
  unfold wX10_goes
  refine e_fullest hF hF8 ?_
  intro y ey
  rw [ix58] at ey
  subst ey
  simp only [ixp0, c0]
  have cF : nn (q 1 7) = F := by rw [hF]; exact nI_clamp (by omega)
  unfold goesF at h
  rw [cF] at h
  refine ⟨v0, fun d1 => ?_, fun d1 => ⟨fun d2 => ?_, fun d2 => ?_⟩⟩
  · rw [if_pos d1, upA_id] at h; exact h
  · rw [if_neg (fun z => z d1), if_pos d2, upA_id] at h; exact h
  · rw [if_neg (fun z => z d1), if_neg d2] at h
    rcases fulF_cases (q 1) F with z | ⟨j, hj, z⟩
    · exact absurd z d2
    · rw [z] at h ⊢
      have cj : nn (nI j) = j := nI_clamp (by omega)
      rw [cj] at h
      refine e_faceOf j 0 (by omega) ⟨fun d3 => ?_, fun d3 => ?_⟩
      · rw [if_pos (show q 1 1 ≤ q 1 (26 + 4 * j) from d3)] at h; exact e_goes59 ht (by omega) h
      · rw [if_neg (show ¬ q 1 1 ≤ q 1 (26 + 4 * j) from d3)] at h; exact e_faceOf j 0 (by omega) (e_goes59 ht (by omega) h)
set_option maxHeartbeats 1000000 in
theorem e_crush46 {k : qS → Prop} {kb : qS → Int32 → Int32 → Int32 → Prop} {q : qS} {x g : Int32} {t : Nat} {z : Int32} (h1 : 1 ≤ t) (ht : t < 10) (h : kb (upA q 1 (crushF (q 1) t g z)) (x - z) g (nI (t + 1))) : wX10_crushes_b46 k kb q x g (nI t) z := by
  have c0 : Int32.toNatClampNeg (nI (16 + t)) = 16 + t := nI_clamp (by omega)
  have v0 : vp_in (nI (16 + t)) 210 := vp_in_nI (by omega) (by omega)
  unfold wX10_crushes_b46
  simp only [ix16, c0]
  intro y1 d1 y2 d2 y3 d3
  refine ⟨v0, fun y4 d4 => ⟨v0, fun q5 d5 y6 d6 q7 d7 y8 d8 q9 d9 y10 d10 q11 d11 y12 d12 q13 d13 y14 d14 q15 d15 y16 d16 => ?_⟩⟩
  rw [d16, d15, d14, d13, d12, d11, d10, d9, d8, d7, d6, d5, d4, d3, d2, d1, nI_1]
  simp only [up2_A, upA_A, upA_s]
  unfold crushF at h
  have l1 : ∀ {f : Nat → Int32} {y : Int32}, upd f (16 + t) y 14 = f 14 := fun {f y} => upd_n (by omega)
  have l2 : ∀ {f : Nat → Int32} {y : Int32}, upd f (16 + t) y 15 = f 15 := fun {f y} => upd_n (by omega)
  have l3 : ∀ {f : Nat → Int32} {y : Int32}, upd f (16 + t) y 16 = f 16 := fun {f y} => upd_n (by omega)
  have l4 : ∀ {f : Nat → Int32} {y : Int32}, upd f (16 + t) y 9 = f 9 := fun {f y} => upd_n (by omega)
  have l5 : ∀ {f : Nat → Int32} {y : Int32}, upd f (16 + t) y 10 = f 10 := fun {f y} => upd_n (by omega)
  have a1 : ∀ {f : Nat → Int32} {y : Int32}, upd f 14 y 15 = f 15 := fun {f y} => upd_n (by omega)
  have a2 : ∀ {f : Nat → Int32} {y : Int32}, upd f 14 y 16 = f 16 := fun {f y} => upd_n (by omega)
  have a3 : ∀ {f : Nat → Int32} {y : Int32}, upd f 15 y 16 = f 16 := fun {f y} => upd_n (by omega)
  have b1 : ∀ {f : Nat → Int32} {y : Int32}, upd f 14 y 9 = f 9 := fun {f y} => upd_n (by omega)
  have b2 : ∀ {f : Nat → Int32} {y : Int32}, upd f 15 y 9 = f 9 := fun {f y} => upd_n (by omega)
  have b3 : ∀ {f : Nat → Int32} {y : Int32}, upd f 16 y 9 = f 9 := fun {f y} => upd_n (by omega)
  have b4 : ∀ {f : Nat → Int32} {y : Int32}, upd f 14 y 10 = f 10 := fun {f y} => upd_n (by omega)
  have b5 : ∀ {f : Nat → Int32} {y : Int32}, upd f 15 y 10 = f 10 := fun {f y} => upd_n (by omega)
  have b6 : ∀ {f : Nat → Int32} {y : Int32}, upd f 16 y 10 = f 10 := fun {f y} => upd_n (by omega)
  have b7 : ∀ {f : Nat → Int32} {y : Int32}, upd f 9 y 10 = f 10 := fun {f y} => upd_n (by omega)
  simp only [l1, l2, l3, l4, l5, a1, a2, a3, b1, b2, b3, b4, b5, b6, b7]
  exact h
theorem e_crushes_l {k : qS → Prop} {q : qS} {g : Int32} : ∀ (d t n : Nat) (v : vS) (left : Int32), 1 ≤ t → t + d = 10 → d < n → k (upA q 1 (crushL g d t v left)) → wX10_crushes_b14 k n (upA q 1 v) left g (nI t) := by
  intro d
  induction d with
  | zero =>
    intro t n v left h1 hi hn h
    obtain ⟨n, rfl⟩ : ∃ m, n = m + 1 := ⟨n - 1, by omega⟩
    unfold wX10_crushes_b14
    exact pk_le 10 t (fun _ => h) (fun c => by omega) rfl rfl (by omega) (by omega)
  | succ d ih =>
    intro t n v left h1 hi hn h
    obtain ⟨n, rfl⟩ : ∃ m, n = m + 1 := ⟨n - 1, by omega⟩
    have c0 : Int32.toNatClampNeg (nI (16 + t)) = 16 + t := nI_clamp (by omega)
    have v0 : vp_in (nI (16 + t)) 210 := vp_in_nI (by omega) (by omega)
    unfold wX10_crushes_b14
    refine pk_le 10 t (fun c => by omega) (fun c => ?_) rfl rfl (by omega) (by omega)
    simp only [ix16, c0, upA_s]
    rw [crushL] at h
    refine ⟨v0, fun d1 => ?_, fun d1 => ⟨v0, ?_⟩⟩
    · rw [if_pos d1] at h
      refine e_crush46 h1 (by omega) ?_
      rw [upA_A, upA_s]
      exact ih (t + 1) n _ _ (by omega) (by omega) (by omega) h
    · rw [if_neg d1] at h
      refine e_crush46 h1 (by omega) ?_
      rw [upA_A, upA_s]
      exact ih (t + 1) n _ _ (by omega) (by omega) (by omega) h
theorem e_crushes {k : qS → Prop} {q : qS} (h : k (upA q 1 (crushL (q 1 3) 9 1 (q 1) (capF (q 1))))) : wX10_crushes k q := by
  unfold wX10_crushes
  refine e_capacity ?_
  intro y ey
  refine ⟨10, ?_⟩
  subst ey
  have h2 := e_crushes_l (k := k) (q := q) (g := q 1 3) 9 1 10 (q 1) (capF (q 1)) (by omega) (by omega) (by omega) h
  rw [upA_id] at h2
  exact h2
/-- what the hour needs of the numbers: trucks, faces and their places -/
def hrOk (v : vS) (T F : Nat) : Prop := v 0 = nI T ∧ T ≤ 20 ∧ v 7 = nI F ∧ F ≤ 8 ∧ (∀ t, t < 20 → ∃ a, a ≤ F ∧ v (58 + 4 * t) = nI a) ∧ ∀ f, f < F → ∃ x, 1 ≤ x ∧ x ≤ 9 ∧ v (27 + 4 * f) = nI x
theorem hrOk.comes {v : vS} {T F t : Nat} (h : hrOk v T F) (ht : t < 20) : hrOk (comesF v t) T F := by
  obtain ⟨h1, h2, h3, h4, h5, h6⟩ := h
  unfold comesF
  split
  · exact ⟨h1, h2, h3, h4, h5, h6⟩
  · split
    · exact ⟨h1, h2, h3, h4, h5, h6⟩
    · rename_i d1 d2
      obtain ⟨a, ha, ea⟩ := h5 t ht
      have ha0 : a ≠ 0 := fun z => d1 (by rw [ea, nI_le0 (by omega)]; exact z)
      have cf : nn (v (58 + 4 * t)) = a := by rw [ea]; exact nI_clamp (by omega)
      obtain ⟨x, hx1, hx9, ex⟩ := h6 (a - 1) (by omega)
      have cx : nn (nI x) = x := nI_clamp (by omega)
      rw [cf, ex, cx]
      have key : ∀ j, (j < 17 ∨ 26 ≤ j) → j ≠ 58 + 4 * t → j ≠ 59 + 4 * t → j ≠ 60 + 4 * t → upd (upd (upd (upd v (16 + x) (v (16 + x) + v (59 + 4 * t))) (58 + 4 * t) 0) (59 + 4 * t) 0) (60 + 4 * t) 0 j = v j := by
        intro j q1 q2 q3 q4
        rw [upd_n q4, upd_n q3, upd_n q2, upd_n (by omega)]
      refine ⟨by rw [key 0 (by omega) (by omega) (by omega) (by omega)]; exact h1, h2, by rw [key 7 (by omega) (by omega) (by omega) (by omega)]; exact h3, h4, fun u hu => ?_, fun f hf => ?_⟩
      · by_cases e : u = t
        · subst e
          exact ⟨0, by omega, by rw [upd_n (by omega), upd_n (by omega), upd_s]; rfl⟩
        · obtain ⟨b, hb, eb⟩ := h5 u hu
          exact ⟨b, hb, by rw [key _ (by omega) (by omega) (by omega) (by omega)]; exact eb⟩
      · obtain ⟨y, y1, y9, ey⟩ := h6 f hf
        exact ⟨y, y1, y9, by rw [key _ (by omega) (by omega) (by omega) (by omega)]; exact ey⟩
theorem hrOk.goes {v : vS} {T F t : Nat} (h : hrOk v T F) (ht : t < 20) : hrOk (goesF v t) T F := by
  obtain ⟨h1, h2, h3, h4, h5, h6⟩ := h
  have cF : nn (v 7) = F := by rw [h3]; exact nI_clamp (by omega)
  unfold goesF
  rw [cF]
  split
  · exact ⟨h1, h2, h3, h4, h5, h6⟩
  · split
    · exact ⟨h1, h2, h3, h4, h5, h6⟩
    · rename_i d1 d2
      rcases fulF_cases v F with z | ⟨f, hf, z⟩
      · exact absurd z d2
      · rw [z]
        have cf : nn (nI f) = f := nI_clamp (by omega)
        rw [cf]
        unfold sendF
        generalize (if v 1 ≤ v (26 + 4 * f) then v 1 else v (26 + 4 * f)) = w
        have key : ∀ j, j ≠ 13 → j ≠ 26 + 4 * f → j ≠ 29 + 4 * f → j ≠ 58 + 4 * t → j ≠ 59 + 4 * t → j ≠ 60 + 4 * t → j ≠ 61 + 4 * t → ∀ x1 x2 x3 x4 x5 x6 x7, upd (upd (upd (upd (upd (upd (upd v (26 + 4 * f) x1) (29 + 4 * f) x2) (58 + 4 * t) x3) (59 + 4 * t) x4) (60 + 4 * t) x5) (61 + 4 * t) x6) 13 x7 j = v j := by
          intro j p1 p2 p3 p4 p5 p6 p7 x1 x2 x3 x4 x5 x6 x7
          rw [upd_n p1, upd_n p7, upd_n p6, upd_n p5, upd_n p4, upd_n p3, upd_n p2]
        refine ⟨by rw [key 0 (by omega) (by omega) (by omega) (by omega) (by omega) (by omega) (by omega)]; exact h1, h2, by rw [key 7 (by omega) (by omega) (by omega) (by omega) (by omega) (by omega) (by omega)]; exact h3, h4, fun u hu => ?_, fun f2 hf2 => ?_⟩
        · by_cases e : u = t
          · subst e
            exact ⟨f + 1, by omega, by rw [upd_n (by omega), upd_n (by omega), upd_n (by omega), upd_n (by omega), upd_s, nI_1]⟩
          · obtain ⟨b, hb, eb⟩ := h5 u hu
            exact ⟨b, hb, by rw [key _ (by omega) (by omega) (by omega) (by omega) (by omega) (by omega) (by omega)]; exact eb⟩
        · obtain ⟨y, y1, y9, ey⟩ := h6 f2 hf2
          exact ⟨y, y1, y9, by rw [key _ (by omega) (by omega) (by omega) (by omega) (by omega) (by omega) (by omega)]; exact ey⟩
theorem e_hour25 {k : qS → Prop} {q : qS} {T F : Nat} : ∀ (d t n : Nat) (v : vS), hrOk v T F → t + d = T → d < n → k (upA q 1 (let v2 := crushL (goesL d t v 3) 9 1 (goesL d t v) (capF (goesL d t v)); upd v2 6 (v2 6 + 1))) → wX10_hour_b25 k n (upA q 1 v) (nI t) := by
  intro d
  induction d with
  | zero =>
    intro t n v hv hi hn h
    obtain ⟨n, rfl⟩ : ∃ m, n = m + 1 := ⟨n - 1, by omega⟩
    obtain ⟨h1, h2, -⟩ := hv
    unfold wX10_hour_b25
    refine pk_le T t (fun _ => ?_) (fun c => by omega) (by rw [upA_s]; exact h1) rfl (by omega) (by omega)
    refine e_crushes ?_
    rw [upA_A, upA_s]
    intro y3 e3 q4 e4
    rw [e4, e3, up2_A, upA_A, upA_s]
    exact h
  | succ d ih =>
    intro t n v hv hi hn h
    obtain ⟨n, rfl⟩ : ∃ m, n = m + 1 := ⟨n - 1, by omega⟩
    obtain ⟨h1, h2, h3, h4, -⟩ := id hv
    unfold wX10_hour_b25
    refine pk_le T t (fun c => by omega) (fun _ => ?_) (by rw [upA_s]; exact h1) rfl (by omega) (by omega)
    refine e_goes (by omega) (F := F) (by rw [upA_s]; exact h3) h4 ?_
    rw [upA_A, upA_s]
    intro y ey
    rw [ey, nI_1]
    exact ih (t + 1) n _ (hv.goes (by omega)) (by omega) (by omega) h
theorem hrOk.comesL {T F : Nat} : ∀ (d t : Nat) (v : vS), hrOk v T F → t + d ≤ 20 → hrOk (comesL d t v) T F
  | 0, _, _, h, _ => h
  | d + 1, t, v, h, ht => hrOk.comesL d (t + 1) _ (h.comes (by omega)) (by omega)
theorem hrOk.goesL {T F : Nat} : ∀ (d t : Nat) (v : vS), hrOk v T F → t + d ≤ 20 → hrOk (goesL d t v) T F
  | 0, _, _, h, _ => h
  | d + 1, t, v, h, ht => hrOk.goesL d (t + 1) _ (h.goes (by omega)) (by omega)
theorem e_hour2 {k : qS → Prop} {q : qS} {T F : Nat} : ∀ (d t n : Nat) (v : vS), hrOk v T F → t + d = T → d < n → k (upA q 1 (let v1 := goesL T 0 (comesL d t v); let v2 := crushL (v1 3) 9 1 v1 (capF v1); upd v2 6 (v2 6 + 1))) → wX10_hour_b2 k n (upA q 1 v) (nI t) := by
  intro d
  induction d with
  | zero =>
    intro t n v hv hi hn h
    obtain ⟨n, rfl⟩ : ∃ m, n = m + 1 := ⟨n - 1, by omega⟩
    obtain ⟨h1, h2, -⟩ := id hv
    unfold wX10_hour_b2
    refine pk_le T t (fun _ => ?_) (fun c => by omega) (by rw [upA_s]; exact h1) rfl (by omega) (by omega)
    exact ⟨T + 1, e_hour25 T 0 (T + 1) v hv (by omega) (by omega) h⟩
  | succ d ih =>
    intro t n v hv hi hn h
    obtain ⟨n, rfl⟩ : ∃ m, n = m + 1 := ⟨n - 1, by omega⟩
    obtain ⟨h1, h2, h3, h4, h5, h6⟩ := id hv
    unfold wX10_hour_b2
    refine pk_le T t (fun c => by omega) (fun _ => ?_) (by rw [upA_s]; exact h1) rfl (by omega) (by omega)
    refine e_comesBack (F := F) (by omega) h4 (by rw [upA_s]; exact h5 t (by omega)) (by rw [upA_s]; exact h6) ?_
    rw [upA_A, upA_s]
    intro y ey
    rw [ey, nI_1]
    exact ih (t + 1) n _ (hv.comes (by omega)) (by omega) (by omega) h
theorem e_hour {k : qS → Prop} {q : qS} {v : vS} {T F : Nat} (hv : hrOk v T F) (h : k (upA q 1 (hourF v))) : wX10_hour k (upA q 1 v) := by
  obtain ⟨h1, h2, -⟩ := id hv
  have cT : nn (v 0) = T := by rw [h1]; exact nI_clamp (by omega)
  unfold hourF at h
  rw [cT] at h
  exact ⟨T + 1, e_hour2 T 0 (T + 1) v hv (by omega) (by omega) h⟩
