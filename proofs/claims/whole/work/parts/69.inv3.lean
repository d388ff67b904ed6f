/-! ===== what holds at all times, after each change ===== -/
theorem isIn_rng {x : Int32} {a b : Nat} (hb : b < 2 ^ 30) (hab : a ≤ b) (h : isIn x (nI a) (nI b)) : ∃ m : Nat, a ≤ m ∧ m ≤ b ∧ x = nI m := by
  unfold isIn at h
  rw [lt_I, lt_I, nI_toInt (by omega), nI_toInt (by omega)] at h
  obtain ⟨j, hj, e⟩ := nI_of (x := x) (by rw [lt_I, show ((0 : Int32)).toInt = 0 from by decide]; omega)
  subst e
  rw [nI_toInt hj] at h
  exact ⟨j, by omega, by omega, rfl⟩
theorem Inv_se {v : vS} {T F C N i : Nat} {x : Int32} (hI : Inv v T F C N) (h1 : 1 ≤ i) (h5 : i ≤ 5) (h : seOk (upd v i x)) : Inv (upd v i x) T F C N := by
  obtain ⟨a1, a2, a3, a4, a5, a6⟩ := hI
  exact ⟨a1.keep (upd_n (by omega)) (upd_n (by omega)) (fun j _ _ => upd_n (by omega)), h, a3.keep (upd_n (by omega)) (fun j _ _ => upd_n (by omega)), a4.keep (upd_n (by omega)) (fun j _ _ => upd_n (by omega)), a5.keep a1.2.2.2.1 (fun j _ _ => upd_n (by omega)), a6.keep (fun j _ _ => upd_n (by omega))⟩
theorem Inv_set {v : vS} {T F C N i : Nat} {s x : Int32} (hI : Inv v T F C N) (hz : refSet v s x = 0) (hi : i ≤ 5) (es : s = nI i) : ∃ T2 H, Inv (upd v i x) T2 F C N ∧ upd v i x 2 = nI H ∧ 1 ≤ H ∧ H ≤ 24 := by
  unfold refSet at hz
  by_cases ok : okSet s x
  · rw [if_neg (fun z => z ok)] at hz
    by_cases nd : s = 0 ∧ x < needF v (nn (v 0))
    · rw [if_pos nd] at hz; exact absurd hz (by decide)
    · obtain ⟨Lo, H, g, kk, o, s1, s1', s2, s2', s3, s3', s4, s4', s5, s5'⟩ := hI.2.1
      have nx : ∀ b : Nat, b ≤ 5 → s = nI b → i = b := fun b hb e => by rw [es] at e; exact (nI_eq (by omega) (by omega)).mp e
      rcases ok with ⟨e, h⟩ | ⟨e, h⟩ | ⟨e, h⟩ | ⟨e, h⟩ | ⟨e, h⟩ | ⟨e, h⟩
      · obtain rfl := nx 0 (by omega) e
        obtain ⟨m, m1, m2, rfl⟩ := isIn_rng (a := 0) (b := 20) (by omega) (by omega) h
        have cT : nn (v 0) = T := by rw [hI.1.1]; exact nI_clamp (by have := hI.1.2.1; omega)
        obtain ⟨a, a1, a2, a3⟩ := need_facts hI.1 T hI.1.2.1
        rw [cT, a2] at nd
        have hT := hI.1.2.1
        have am : a ≤ m := by
          rcases Nat.lt_or_ge m a with z | z
          · exact absurd ⟨e, (nI_ltI (by omega) (by omega)).mpr z⟩ nd
          · exact z
        refine ⟨m, H, Inv_trucks hI m2 (fun j j1 j2 => ?_), by rw [upd_n (by omega)]; exact s2, s2'⟩
        by_cases z : j < T
        · exact a3 j (by omega) z
        · exact (hI.2.2.2.2.2 j j2).1 (by omega)
      · obtain rfl := nx 1 (by omega) e
        obtain ⟨m, m1, m2, rfl⟩ := isIn_rng (a := 1) (b := 40) (by omega) (by omega) h
        exact ⟨T, H, Inv_se hI (by omega) (by omega) ⟨m, H, g, kk, o, upd_s, ⟨m1, m2⟩, by rw [upd_n (by omega)]; exact s2, s2', by rw [upd_n (by omega)]; exact s3, s3', by rw [upd_n (by omega)]; exact s4, s4', by rw [upd_n (by omega)]; exact s5, s5'⟩, by rw [upd_n (by omega)]; exact s2, s2'⟩
      · obtain rfl := nx 2 (by omega) e
        obtain ⟨m, m1, m2, rfl⟩ := isIn_rng (a := 1) (b := 24) (by omega) (by omega) h
        exact ⟨T, m, Inv_se hI (by omega) (by omega) ⟨Lo, m, g, kk, o, by rw [upd_n (by omega)]; exact s1, s1', upd_s, ⟨m1, m2⟩, by rw [upd_n (by omega)]; exact s3, s3', by rw [upd_n (by omega)]; exact s4, s4', by rw [upd_n (by omega)]; exact s5, s5'⟩, upd_s, m1, m2⟩
      · obtain rfl := nx 3 (by omega) e
        obtain ⟨m, m1, m2, rfl⟩ := isIn_rng (a := 1) (b := 9) (by omega) (by omega) h
        exact ⟨T, H, GI_gap hI m1 m2, by rw [upd_n (by omega)]; exact s2, s2'⟩
      · obtain rfl := nx 4 (by omega) e
        obtain ⟨m, m1, m2, rfl⟩ := isIn_rng (a := 1) (b := 200) (by omega) (by omega) h
        exact ⟨T, H, Inv_se hI (by omega) (by omega) ⟨Lo, H, g, m, o, by rw [upd_n (by omega)]; exact s1, s1', by rw [upd_n (by omega)]; exact s2, s2', by rw [upd_n (by omega)]; exact s3, s3', upd_s, ⟨m1, m2⟩, by rw [upd_n (by omega)]; exact s5, s5'⟩, by rw [upd_n (by omega)]; exact s2, s2'⟩
      · obtain rfl := nx 5 (by omega) e
        obtain ⟨m, m1, m2, rfl⟩ := isIn_rng (a := 0) (b := 99) (by omega) (by omega) h
        exact ⟨T, H, Inv_se hI (by omega) (by omega) ⟨Lo, H, g, kk, m, by rw [upd_n (by omega)]; exact s1, s1', by rw [upd_n (by omega)]; exact s2, s2', by rw [upd_n (by omega)]; exact s3, s3', by rw [upd_n (by omega)]; exact s4, s4', upd_s, m2⟩, by rw [upd_n (by omega)]; exact s2, s2'⟩
  · rw [if_pos ok] at hz; exact absurd hz (by decide)
theorem set_pos {v : vS} {T F C N i : Nat} (hI : Inv v T F C N) (hi : i ≤ 5) : ¬ v i < 0 := by
  obtain ⟨Lo, H, g, kk, o, s1, s1', s2, s2', s3, s3', s4, s4', s5, s5'⟩ := hI.2.1
  have hT := hI.1.2.1
  rcases (show i = 0 ∨ i = 1 ∨ i = 2 ∨ i = 3 ∨ i = 4 ∨ i = 5 by omega) with rfl | rfl | rfl | rfl | rfl | rfl
  · rw [hI.1.1]; exact nI_pos (by omega)
  · rw [s1]; exact nI_pos (by omega)
  · rw [s2]; exact nI_pos (by omega)
  · rw [s3]; exact nI_pos (by omega)
  · rw [s4]; exact nI_pos (by omega)
  · rw [s5]; exact nI_pos (by omega)
theorem Inv_mend {v : vS} {T F C N : Nat} (hI : Inv v T F C N) : Inv (upd v 10 0) T F C N := by
  obtain ⟨a1, a2, ⟨⟨w, w1, w2⟩, ⟨b0, b1, b2, x0, x1, x2, x3⟩, hs⟩, a4, a5, a6⟩ := hI
  refine ⟨a1.keep (upd_n (by omega)) (upd_n (by omega)) (fun j _ _ => upd_n (by omega)), a2.keep (fun j _ _ => upd_n (by omega)), ⟨⟨0, upd_s, by omega⟩, ⟨b0, b1, b2, by rw [upd_n (by omega)]; exact x0, by rw [upd_n (by omega)]; exact x1, by rw [upd_n (by omega)]; exact x2, x3⟩, fun i i1 i9 => ?_⟩, a4.keep (upd_n (by omega)) (fun j _ _ => upd_n (by omega)), a5.keep a1.2.2.2.1 (fun j _ _ => upd_n (by omega)), a6.keep (fun j _ _ => upd_n (by omega))⟩
  obtain ⟨s, s1, s2⟩ := hs i i1 i9
  exact ⟨s, by rw [upd_n (by omega)]; exact s1, s2⟩
theorem Inv_face {v : vS} {T F C N : Nat} {t h w : Int32} (hI : Inv v T F C N) (hF : F < 8) (hz : refFace v t h w = 0) : Inv (faceF v F t h w) T (F + 1) C N := by
  unfold refFace at hz
  by_cases ok : isIn t 1 9999 ∧ isIn h 1 9 ∧ isIn w 1 12
  · obtain ⟨m1, a1, b1, rfl⟩ := isIn_rng (a := 1) (b := 9999) (by omega) (by omega) ok.1
    obtain ⟨m2, a2, b2, rfl⟩ := isIn_rng (a := 1) (b := 9) (by omega) (by omega) ok.2.1
    obtain ⟨m3, a3, b3, rfl⟩ := isIn_rng (a := 1) (b := 12) (by omega) (by omega) ok.2.2
    have key : ∀ j, j ≠ 7 → j ≠ 26 + 4 * F → j ≠ 27 + 4 * F → j ≠ 28 + 4 * F → j ≠ 29 + 4 * F → faceF v F (nI m1) (nI m2) (nI m3) j = v j := by
      intro j p1 p2 p3 p4 p5
      unfold faceF
      rw [upd_n p1, upd_n p5, upd_n p4, upd_n p3, upd_n p2]
    have k7 : faceF v F (nI m1) (nI m2) (nI m3) 7 = nI (F + 1) := by unfold faceF; rw [upd_s]
    have k26 : faceF v F (nI m1) (nI m2) (nI m3) (26 + 4 * F) = nI m1 := by unfold faceF; rw [upd_n (by omega), upd_n (by omega), upd_n (by omega), upd_n (by omega), upd_s]
    have k27 : faceF v F (nI m1) (nI m2) (nI m3) (27 + 4 * F) = nI m2 := by unfold faceF; rw [upd_n (by omega), upd_n (by omega), upd_n (by omega), upd_s]
    have k28 : faceF v F (nI m1) (nI m2) (nI m3) (28 + 4 * F) = nI m3 := by unfold faceF; rw [upd_n (by omega), upd_n (by omega), upd_s]
    obtain ⟨⟨c1, c2, c3, c4, c5, c6⟩, d2, d3, d4, d5, d6⟩ := hI
    refine ⟨⟨by rw [key 0 (by omega) (by omega) (by omega) (by omega) (by omega)]; exact c1, c2, k7, by omega, fun u hu => ?_, fun f hf => ?_⟩, d2.keep (fun j _ _ => key j (by omega) (by omega) (by omega) (by omega) (by omega)), d3.keep (key 10 (by omega) (by omega) (by omega) (by omega) (by omega)) (fun j _ _ => key j (by omega) (by omega) (by omega) (by omega) (by omega)), d4.keep (key 8 (by omega) (by omega) (by omega) (by omega) (by omega)) (fun j _ _ => key j (by omega) (by omega) (by omega) (by omega) (by omega)), fun f hf => ?_, d6.keep (fun j _ _ => key j (by omega) (by omega) (by omega) (by omega) (by omega))⟩
    · obtain ⟨a, y1, y2⟩ := c5 u hu
      exact ⟨a, by omega, by rw [key _ (by omega) (by omega) (by omega) (by omega) (by omega)]; exact y2⟩
    · by_cases e : f = F
      · subst e; exact ⟨m2, a2, b2, k27⟩
      · obtain ⟨x, y1, y2, y3⟩ := c6 f (by omega)
        exact ⟨x, y1, y2, by rw [key _ (by omega) (by omega) (by omega) (by omega) (by omega)]; exact y3⟩
    · by_cases e : f = F
      · subst e; exact ⟨m1, m3, k26, b1, k28, a3, b3⟩
      · obtain ⟨l, y, y1, y2, y3, y4⟩ := d5 f (by omega)
        exact ⟨l, y, by rw [key _ (by omega) (by omega) (by omega) (by omega) (by omega)]; exact y1, y2, by rw [key _ (by omega) (by omega) (by omega) (by omega) (by omega)]; exact y3, y4⟩
  · rw [if_pos ok] at hz; exact absurd hz (by decide)
theorem Inv_con {v : vS} {T F C N : Nat} {t a b e f p : Int32} (hI : Inv v T F C N) (hC : C < 12) (hz : refCon v t a b e f p = 0) : Inv (conF v C t a b e f p) T F (C + 1) N := by
  unfold refCon at hz
  by_cases ok : okCon t a b e f p
  · obtain ⟨⟨oa, ob, oe, of⟩, ot, op⟩ := ok
    obtain ⟨m1, a1, b1, rfl⟩ := isIn_rng (a := 0) (b := 100) (by omega) (by omega) oa
    have l100 : m1 ≤ 100 := b1
    obtain ⟨m2, a2, b2, rfl⟩ := isIn_rng (a := m1) (b := 100) (by omega) l100 ob
    obtain ⟨m3, a3, b3, rfl⟩ := isIn_rng (a := 0) (b := 100) (by omega) (by omega) oe
    have l3 : m3 ≤ 100 := b3
    obtain ⟨m4, a4, b4, rfl⟩ := isIn_rng (a := m3) (b := 100) (by omega) l3 of
    obtain ⟨m5, a5, b5, rfl⟩ := isIn_rng (a := 1) (b := 500) (by omega) (by omega) ot
    obtain ⟨m6, a6, b6, rfl⟩ := isIn_rng (a := 0) (b := 99) (by omega) (by omega) op
    have key : ∀ j, j ≠ 8 → j < 138 + 6 * C → conF v C (nI m5) (nI m1) (nI m2) (nI m3) (nI m4) (nI m6) j = v j := by
      intro j p1 p2
      unfold conF
      rw [upd_n p1, upd_n (by omega), upd_n (by omega), upd_n (by omega), upd_n (by omega), upd_n (by omega), upd_n (by omega)]
    have key8 : conF v C (nI m5) (nI m1) (nI m2) (nI m3) (nI m4) (nI m6) 8 = nI (C + 1) := by unfold conF; rw [upd_s]
    obtain ⟨c1, d2, d3, ⟨e1, e2, e3⟩, d5, d6⟩ := hI
    refine ⟨c1.keep (key 0 (by omega) (by omega)) (key 7 (by omega) (by omega)) (fun j _ _ => key j (by omega) (by omega)), d2.keep (fun j _ _ => key j (by omega) (by omega)), d3.keep (key 10 (by omega) (by omega)) (fun j _ _ => key j (by omega) (by omega)), ⟨key8, by omega, fun c hc => ?_⟩, d5.keep c1.2.2.2.1 (fun j _ _ => key j (by omega) (by omega)), d6.keep (fun j _ _ => key j (by omega) (by omega))⟩
    by_cases ec : c = C
    · subst ec
      refine ⟨m5, m1, m2, m3, m4, m6, ?_⟩
      unfold cnOk trF conF
      refine ⟨⟨?_, a5, b5⟩, ⟨?_, ?_, a2, b2⟩, ⟨?_, ?_, a4, b4⟩, ?_, b6⟩
      · rw [upd_n (by omega), upd_n (by omega), upd_n (by omega), upd_n (by omega), upd_n (by omega), upd_n (by omega)]
        exact upd_s
      · rw [upd_n (by omega), upd_n (by omega), upd_n (by omega), upd_n (by omega), upd_n (by omega), upd_s]
      · rw [upd_n (by omega), upd_n (by omega), upd_n (by omega), upd_n (by omega), upd_s]
      · rw [upd_n (by omega), upd_n (by omega), upd_n (by omega), upd_s]
      · rw [upd_n (by omega), upd_n (by omega), upd_s]
      · rw [upd_n (by omega), upd_s]
    · obtain ⟨t, a, b, e, f, p, hh⟩ := e3 c (by omega)
      exact ⟨t, a, b, e, f, p, hh.keep (fun j hj => key _ (by omega) (by omega))⟩
  · rw [if_pos ok] at hz; exact absurd hz (by decide)
theorem deliverL_gain {T F N : Nat} (hN : N ≤ 500000) : ∀ (d c C : Nat) (v : vS), Inv v T F C N → c + d = C → ∃ C2 e p : Nat, C2 + e = C ∧ Inv (deliverL d c v) T F C2 N ∧ deliverL d c v 11 = v 11 + nI e ∧ deliverL d c v 12 = v 12 + nI p ∧ p ≤ 49500 * e
  | 0, _, C, v, hv, _ => ⟨C, 0, 0, rfl, hv, by show v 11 = v 11 + nI 0; rw [show nI 0 = (0 : Int32) from rfl, Int32.add_zero], by show v 12 = v 12 + nI 0; rw [show nI 0 = (0 : Int32) from rfl, Int32.add_zero], by omega⟩
  | d + 1, c, C, v, hv, h => by
    unfold deliverL
    split
    · rename_i hr
      obtain ⟨C, rfl⟩ : ∃ m, C = m + 1 := ⟨C - 1, by omega⟩
      obtain ⟨t, a, b, e', f, p', hh⟩ := hv.2.2.2.1.2.2 c (by omega)
      obtain ⟨C2, e, p, h1, h2, h3, h4, h5⟩ := deliverL_gain hN d c C _ (hv.deliver (c := c) (by omega) hN hr) (by omega)
      have h8 : dl1 v c 8 = nI (C + 1) := by rw [dl1_n (by omega) (by omega) (by omega) (by omega) (by omega)]; exact hv.2.2.2.1.1
      have hC2 := hv.2.2.2.1.2.1
      have g11 : deliverF v c 11 = v 11 + nI 1 := by
        rw [deliver_dl1, drop_lo (C := C + 1) (by omega) h8 hC2 (by omega) (by omega)]; unfold dl1; rw [upd_s]; rfl
      have g12 : deliverF v c 12 = v 12 + nI (t * p') := by
        rw [deliver_dl1, drop_lo (C := C + 1) (by omega) h8 hC2 (by omega) (by omega)]; unfold dl1; rw [upd_n (by omega), upd_s, hh.1.1, hh.2.2.2.1, pk_mul]
      have htp : t * p' ≤ 500 * 99 := Nat.mul_le_mul hh.1.2.2 hh.2.2.2.2
      refine ⟨C2, 1 + e, t * p' + p, by omega, h2, ?_, ?_, by omega⟩
      · rw [h3, g11, Int32.add_assoc, nI_add]
      · rw [h4, g12, Int32.add_assoc, nI_add]
    · exact deliverL_gain hN d (c + 1) C v hv (by omega)
theorem days_gain {T F H : Nat} (hH24 : H ≤ 24) : ∀ (n : Nat) (v : vS) (C N : Nat), Inv v T F C N → v 2 = nI H → N + 29 * H * n ≤ 500000 → ∃ C2 e p : Nat, C2 + e = C ∧ Inv (daysF n v) T F C2 (N + 29 * H * n) ∧ daysF n v 11 = v 11 + nI e ∧ daysF n v 12 = v 12 + nI p ∧ p ≤ 49500 * e
  | 0, v, C, N, hv, _, _ => ⟨C, 0, 0, rfl, hv, by show v 11 = v 11 + nI 0; rw [show nI 0 = (0 : Int32) from rfl, Int32.add_zero], by show v 12 = v 12 + nI 0; rw [show nI 0 = (0 : Int32) from rfl, Int32.add_zero], by omega⟩
  | n + 1, v, C, N, hv, hH, hN => by
    have e1 : 29 * H * (n + 1) = 29 * H + 29 * H * n := by rw [Nat.mul_add, Nat.mul_one]; omega
    obtain ⟨C2, h1, h2, h3, h4, h5⟩ := hv.day hH hH24 (by omega)
    obtain ⟨a1, a2, -⟩ := Inv.hours H v N hv (by omega)
    obtain ⟨C3, e, p, g1, g2, g3, g4, g5⟩ := deliverL_gain (T := T) (F := F) (N := N + 29 * H) (by omega) C 0 C _ a1 (by omega)
    rw [← h5] at g2 g3 g4
    rw [a2 11 (by omega) (by omega)] at g3
    rw [a2 12 (by omega) (by omega)] at g4
    obtain ⟨C4, e2, p2, f1, f2, f3, f4, f5⟩ := days_gain hH24 n (dayF v) C3 (N + 29 * H) g2 (by rw [h3 2 (by omega)]; exact hH) (by omega)
    unfold daysF
    refine ⟨C4, e + e2, p + p2, by omega, by rw [e1, ← Nat.add_assoc]; exact f2, ?_, ?_, by omega⟩
    · rw [f3, g3, Int32.add_assoc, nI_add]
    · rw [f4, g4, Int32.add_assoc, nI_add]
theorem gain_sub (x : Int32) (e : Nat) : x + nI e - x = nI e := by rw [Int32.add_comm, Int32.add_sub_cancel]
