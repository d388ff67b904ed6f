/-! ===== the reference: a contract goes, is delivered; days ===== -/
theorem e_drop61 {k : qS → Prop} {q : qS} {C : Nat} (hC : C < 12) : ∀ (d i n : Nat) (w : vS), w 8 = nI C → i + d = 6 → d < n → k (upA q 1 (fun j => if 138 + 6 * C + i ≤ j ∧ j < 138 + 6 * C + 6 then 0 else w j)) → wX10_dropsContract_b61 k n (upA q 1 w) (nI i) := by
  intro d
  induction d with
  | zero =>
    intro i n w h8 hi hn h
    obtain ⟨n, rfl⟩ : ∃ m, n = m + 1 := ⟨n - 1, by omega⟩
    unfold wX10_dropsContract_b61
    refine pk_le 6 i (fun _ => ?_) (fun c => by omega) rfl rfl (by omega) (by omega)
    have e : (fun j => if 138 + 6 * C + i ≤ j ∧ j < 138 + 6 * C + 6 then 0 else w j) = w := by funext j; rw [if_neg (by omega)]
    rw [e] at h
    exact h
  | succ d ih =>
    intro i n w h8 hi hn h
    obtain ⟨n, rfl⟩ : ∃ m, n = m + 1 := ⟨n - 1, by omega⟩
    unfold wX10_dropsContract_b61
    refine pk_le 6 i (fun c => by omega) (fun _ => ?_) rfl rfl (by omega) (by omega)
    rw [upA_s, h8, ix138, nI_add, nI_clamp (by omega)]
    refine ⟨vp_in_nI (by omega) (by omega), fun q1 e1 y2 e2 => ?_⟩
    rw [e2, e1, nI_1, up2_A, upA_A, upA_s]
    refine ih (i + 1) n _ (by rw [upd_n (by omega)]; exact h8) (by omega) (by omega) ?_
    have e : (fun j => if 138 + 6 * C + (i + 1) ≤ j ∧ j < 138 + 6 * C + 6 then 0 else upd w (138 + 6 * C + i) 0 j) = (fun j => if 138 + 6 * C + i ≤ j ∧ j < 138 + 6 * C + 6 then 0 else w j) := by
      funext j
      by_cases c1 : j = 138 + 6 * C + i
      · subst c1; rw [if_neg (by omega), upd_s, if_pos (by omega)]
      · rw [upd_n c1]
        by_cases c2 : 138 + 6 * C + i ≤ j ∧ j < 138 + 6 * C + 6
        · rw [if_pos (by omega), if_pos c2]
        · rw [if_neg (by omega), if_neg c2]
    rw [e]
    exact h
theorem e_drop16 {k : qS → Prop} {q : qS} {C c : Nat} {v : vS} (hC : C < 12) (h8 : v 8 = nI C) : ∀ (d i n : Nat), 6 * c ≤ i → i + d = 6 * C → d < n →
    k (upA q 1 (fun j => if 138 + 6 * C ≤ j ∧ j < 138 + 6 * C + 6 then 0 else if 138 + 6 * c ≤ j ∧ j < 138 + 6 * C then v (j + 6) else v j)) →
    wX10_dropsContract_b16 k n (upA q 1 (fun j => if 138 + 6 * c ≤ j ∧ j < 138 + i then v (j + 6) else v j)) (nI i) := by
  intro d
  induction d with
  | zero =>
    intro i n hci hi hn h
    obtain ⟨n, rfl⟩ : ∃ m, n = m + 1 := ⟨n - 1, by omega⟩
    unfold wX10_dropsContract_b16
    refine pk_le (6 * C) i (fun _ => ?_) (fun c => by omega) (by rw [upA_s, if_neg (by omega), h8, show (6 : Int32) = nI 6 from rfl, pk_mul]) rfl (by omega) (by omega)
    refine ⟨7, e_drop61 hC 6 0 7 _ (by rw [if_neg (by omega)]; exact h8) (by omega) (by omega) ?_⟩
    rw [show i = 6 * C from by omega]
    exact h
  | succ d ih =>
    intro i n hci hi hn h
    obtain ⟨n, rfl⟩ : ∃ m, n = m + 1 := ⟨n - 1, by omega⟩
    unfold wX10_dropsContract_b16
    refine pk_le (6 * C) i (fun c => by omega) (fun _ => ?_) (by rw [upA_s, if_neg (by omega), h8, show (6 : Int32) = nI 6 from rfl, pk_mul]) rfl (by omega) (by omega)
    have e138 : (138 : Int32) + nI i = nI (138 + i) := by rw [← nI_add]; rfl
    rw [e138, ixp6, nI_clamp (by omega), nI_clamp (by omega)]
    refine ⟨vp_in_nI (by omega) (by omega), fun y4 e4 => ⟨vp_in_nI (by omega) (by omega), fun q5 e5 y6 e6 => ?_⟩⟩
    rw [e6, e5, e4, nI_1, up2_A, upA_A, upA_s]
    have e : upd (fun j => if 138 + 6 * c ≤ j ∧ j < 138 + i then v (j + 6) else v j) (138 + i) (if 138 + 6 * c ≤ 138 + i + 6 ∧ 138 + i + 6 < 138 + i then v (138 + i + 6 + 6) else v (138 + i + 6)) = (fun j => if 138 + 6 * c ≤ j ∧ j < 138 + (i + 1) then v (j + 6) else v j) := by
      funext j
      rw [if_neg (by omega)]
      by_cases c1 : j = 138 + i
      · subst c1; rw [upd_s, if_pos (by omega)]
      · rw [upd_n c1]
        by_cases c2 : 138 + 6 * c ≤ j ∧ j < 138 + i
        · rw [if_pos c2, if_pos (by omega)]
        · rw [if_neg c2, if_neg (by omega)]
    rw [e]
    exact ih (i + 1) n (by omega) (by omega) (by omega) h
theorem e_drops {k : qS → Prop} {q : qS} {v : vS} {C c : Nat} (h8 : v 8 = nI C) (hc : c < C) (hC : C ≤ 12) (h : k (upA q 1 (dropF v c))) : wX10_dropsContract k (upA q 1 v) (nI c) := by
  obtain ⟨C, rfl⟩ : ∃ m, C = m + 1 := ⟨C - 1, by omega⟩
  unfold wX10_dropsContract
  intro y7 e7 q8 e8 y9 e9
  refine ⟨6 * C + 1, ?_⟩
  rw [e9, e8, e7, up2_A, upA_A, upA_s, h8, nI_pred, show (6 : Int32) = nI 6 from rfl, pk_mul]
  have L := e_drop16 (k := k) (q := q) (C := C) (c := c) (v := upd v 8 (nI C)) (by omega) upd_s (6 * C - 6 * c) (6 * c) (6 * C + 1) (by omega) (by omega) (by omega)
  have e0 : (fun j => if 138 + 6 * c ≤ j ∧ j < 138 + 6 * c then upd v 8 (nI C) (j + 6) else upd v 8 (nI C) j) = upd v 8 (nI C) := by funext j; rw [if_neg (by omega)]
  rw [e0] at L
  refine L ?_
  have e1 : (fun j => if 138 + 6 * C ≤ j ∧ j < 138 + 6 * C + 6 then 0 else if 138 + 6 * c ≤ j ∧ j < 138 + 6 * C then upd v 8 (nI C) (j + 6) else upd v 8 (nI C) j) = dropF v c := by
    have cc : nn (v 8) - 1 = C := by rw [h8]; unfold nn; rw [nI_clamp (by omega)]; omega
    funext j
    unfold dropF
    rw [cc, h8, nI_pred]
    by_cases c0 : j = 8
    · subst c0; rw [if_neg (by omega), if_neg (by omega), upd_s, if_pos rfl]
    · rw [if_neg c0]
      by_cases c1 : 138 + 6 * C ≤ j ∧ j < 138 + 6 * C + 6
      · rw [if_pos c1, if_neg (by omega), if_pos c1]
      · rw [if_neg c1]
        by_cases c2 : 138 + 6 * c ≤ j ∧ j < 138 + 6 * C
        · rw [if_pos c2, if_pos c2, upd_n (by omega)]
        · rw [if_neg c2, if_neg c2, if_neg c1, upd_n c0]
  rw [e1]
  exact h
set_option maxHeartbeats 1000000 in
theorem e_delivers {k : qS → Prop} {q : qS} {C c : Nat} (h8 : q 1 8 = nI C) (hc : c < C) (hC : C ≤ 12) (h9 : q 0 9 = fineF (q 1) c) (h10 : q 0 10 = coarseF (q 1) c) (h : k (upA q 1 (deliverF (q 1) c))) : wX10_delivers k q (nI c) := by
  unfold wX10_delivers
  refine e_asks c 0 (by omega) ?_
  intro y3 e3 q4 e4 y5 e5 q6 e6 y7 e7 q8 e8
  subst e3 e4 e5 e6 e7 e8
  have z1 : (0 : Nat) ≠ 1 := by decide
  have a1 : ∀ {f : Nat → Int32} {y : Int32}, upd f 14 y 15 = f 15 := fun {f y} => upd_n (by omega)
  have a2 : ∀ {f : Nat → Int32} {y : Int32}, upd f 14 y 16 = f 16 := fun {f y} => upd_n (by omega)
  have a3 : ∀ {f : Nat → Int32} {y : Int32}, upd f 15 y 16 = f 16 := fun {f y} => upd_n (by omega)
  have a4 : ∀ {f : Nat → Int32} {y : Int32}, upd f 14 y 12 = f 12 := fun {f y} => upd_n (by omega)
  have a5 : ∀ {f : Nat → Int32} {y : Int32}, upd f 15 y 12 = f 12 := fun {f y} => upd_n (by omega)
  have a6 : ∀ {f : Nat → Int32} {y : Int32}, upd f 16 y 12 = f 12 := fun {f y} => upd_n (by omega)
  have a7 : ∀ {f : Nat → Int32} {y : Int32}, upd f 14 y 11 = f 11 := fun {f y} => upd_n (by omega)
  have a8 : ∀ {f : Nat → Int32} {y : Int32}, upd f 15 y 11 = f 11 := fun {f y} => upd_n (by omega)
  have a9 : ∀ {f : Nat → Int32} {y : Int32}, upd f 16 y 11 = f 11 := fun {f y} => upd_n (by omega)
  have a0 : ∀ {f : Nat → Int32} {y : Int32}, upd f 12 y 11 = f 11 := fun {f y} => upd_n (by omega)
  have b1 : ∀ {f : Nat → Int32} {y : Int32}, upd f 14 y (138 + 6 * c + 5) = f (138 + 6 * c + 5) := fun {f y} => upd_n (by omega)
  have b2 : ∀ {f : Nat → Int32} {y : Int32}, upd f 15 y (138 + 6 * c + 5) = f (138 + 6 * c + 5) := fun {f y} => upd_n (by omega)
  have b3 : ∀ {f : Nat → Int32} {y : Int32}, upd f 16 y (138 + 6 * c + 5) = f (138 + 6 * c + 5) := fun {f y} => upd_n (by omega)
  simp only [up2_A, upA_A, upA_s, upA_n z1, a1, a2, a3]
  refine e_asks c 5 (by omega) ?_
  intro y11 e11 q12 e12 y13 e13 q14 e14
  subst e11 e12 e13 e14
  simp only [up2_A, upA_A, upA_s, a4, a5, a6, a7, a8, a9, a0]
  refine e_drops (C := C) ?_ hc hC ?_
  · rw [upd_n (by omega), upd_n (by omega), upd_n (by omega), upd_n (by omega), upd_n (by omega)]; exact h8
  · unfold deliverF at h
    have e5 : trF (upd (upd (upd (q 1) 14 (q 1 14 - q 0 9)) 15 (q 1 15 - (trF (q 1) c 0 - q 0 9 - q 0 10))) 16 (q 1 16 - q 0 10)) c 5 = trF (q 1) c 5 := by
      unfold trF; rw [b3, b2, b1]
    rw [e5, h9, h10]
    exact h
