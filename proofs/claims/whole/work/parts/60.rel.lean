/-! ===== the class's quarry q tells the same as the 210 numbers v ===== -/
def rS (q : qS) (v : vS) : Prop := ∀ i, i < 6 → q 1 i = v i
def r0 (q : qS) (v : vS) : Prop := q 0 0 = v 6 ∧ q 0 4 = v 7 ∧ q 0 5 = v 8 ∧ q 0 7 = v 9 ∧ q 0 6 = v 10 ∧ q 0 1 = v 11 ∧ q 0 2 = v 12 ∧ q 0 3 = v 13
def rB (q : qS) (v : vS) : Prop := (∀ i, i < 3 → q 11 i = v (14 + i)) ∧ ∀ h, 1 ≤ h → h ≤ 9 → q 10 h = v (16 + h)
def rF (q : qS) (v : vS) (F : Nat) : Prop := ∀ f, f < F → q 2 f = v (26 + 4 * f) ∧ q 4 f = v (27 + 4 * f) ∧ q 5 f = v (28 + 4 * f) ∧ q 3 f = v (29 + 4 * f)
def rT (q : qS) (v : vS) : Prop := ∀ t, t < 20 → q 9 t = v (61 + 4 * t) ∧ (v (58 + 4 * t) = 0 → q 6 t = -6) ∧ (¬ v (58 + 4 * t) = 0 → q 6 t = v (58 + 4 * t) - 1 ∧ q 7 t = v (59 + 4 * t) ∧ q 8 t = v (60 + 4 * t))
def rC (q : qS) (v : vS) (C : Nat) : Prop := ∀ c, c < C → ∀ j, j < 6 → q 12 (6 * c + j) = v (138 + 6 * c + j)
def RQ (q : qS) (v : vS) (F C : Nat) : Prop := rS q v ∧ r0 q v ∧ rB q v ∧ rF q v F ∧ rT q v ∧ rC q v C
theorem rS.k {q r : qS} {v w : vS} (h : rS q v) (h1 : r 1 = q 1) (hv : ∀ j, j < 6 → w j = v j) : rS r w := fun i hi => by rw [h1, hv i hi]; exact h i hi
theorem rB.k {q r : qS} {v w : vS} (h : rB q v) (h1 : r 11 = q 11) (h2 : r 10 = q 10) (hv : ∀ j, 14 ≤ j → j < 26 → w j = v j) : rB r w := ⟨fun i hi => by rw [h1, hv _ (by omega) (by omega)]; exact h.1 i hi, fun i a b => by rw [h2, hv _ (by omega) (by omega)]; exact h.2 i a b⟩
theorem rF.k {q r : qS} {v w : vS} {F : Nat} (h : rF q v F) (hF : F ≤ 8) (h2 : r 2 = q 2) (h3 : r 3 = q 3) (h4 : r 4 = q 4) (h5 : r 5 = q 5) (hv : ∀ j, 26 ≤ j → j < 58 → w j = v j) : rF r w F := fun f hf => by
  rw [h2, h3, h4, h5, hv _ (by omega) (by omega), hv _ (by omega) (by omega), hv _ (by omega) (by omega), hv _ (by omega) (by omega)]; exact h f hf
theorem rT.k {q r : qS} {v w : vS} (h : rT q v) (h6 : r 6 = q 6) (h7 : r 7 = q 7) (h8 : r 8 = q 8) (h9 : r 9 = q 9) (hv : ∀ j, 58 ≤ j → j < 138 → w j = v j) : rT r w := fun t ht => by
  rw [h6, h7, h8, h9, hv _ (by omega) (by omega), hv _ (by omega) (by omega), hv _ (by omega) (by omega), hv _ (by omega) (by omega)]; exact h t ht
theorem rC.k {q r : qS} {v w : vS} {C : Nat} (h : rC q v C) (hC : C ≤ 12) (h1 : r 12 = q 12) (hv : ∀ j, 138 ≤ j → j < 210 → w j = v j) : rC r w C := fun c hc j hj => by rw [h1, hv _ (by omega) (by omega)]; exact h c hc j hj
/-! ## leaves -/
theorem c_in {k : Int32 → Prop} {x a b : Int32} (h1 : isIn x a b → k 1) (h0 : ¬ isIn x a b → k 0) : wX9_within k x a b := by
  unfold wX9_within wX9_within_b14 wX9_within_b15
  exact ⟨fun c => ⟨rfl, h0 (fun z => z (Or.inl c))⟩, fun c => ⟨fun c2 => ⟨rfl, h0 (fun z => z (Or.inr c2))⟩, fun c2 => ⟨rfl, h1 (fun z => z.elim c c2)⟩⟩⟩
/-- a number below a count -/
theorem below {x : Int32} {F B : Nat} (hF : F ≤ B) (hB : B < 2 ^ 30) : (¬ x < 0 ∧ ¬ nI F ≤ x ∧ ¬ nI B ≤ x) ↔ ∃ j : Nat, j < F ∧ x = nI j := by
  constructor
  · rintro ⟨h1, h2, h3⟩
    obtain ⟨j, hj, rfl⟩ := nI_of h1
    rw [nI_leI (by omega) hj] at h2
    exact ⟨j, by omega, rfl⟩
  · rintro ⟨j, hj, rfl⟩
    rw [nI_leI (by omega) (by omega), nI_leI (by omega) (by omega)]
    exact ⟨nI_pos (by omega), by omega, by omega⟩
theorem c_hasF {k : Int32 → qS → Prop} {q : qS} {F : Nat} {x : Int32} (h4 : q 0 4 = nI F) (hF : F ≤ 8) (h1 : (∃ j : Nat, j < F ∧ x = nI j) → k 1 q) (h0 : (¬ ∃ j : Nat, j < F ∧ x = nI j) → k 0 q) : wX3_has k q x := by
  have hb := below (x := x) hF (by omega)
  unfold wX3_has wX3_has_b22 wX3_has_b23
  rw [h4]
  refine ⟨fun c => ⟨rfl, h0 (fun z => (hb.mpr z).1 c)⟩, fun c => ⟨fun c2 => ⟨rfl, h0 (fun z => (hb.mpr z).2.1 c2)⟩, fun c2 => ⟨fun c3 => ⟨rfl, h0 (fun z => (hb.mpr z).2.2 c3)⟩, fun c3 => ⟨rfl, h1 (hb.mp ⟨c, c2, c3⟩)⟩⟩⟩⟩
theorem c_hasC {k : Int32 → qS → Prop} {q : qS} {C : Nat} {x : Int32} (h5 : q 0 5 = nI C) (hC : C ≤ 12) (h1 : (∃ j : Nat, j < C ∧ x = nI j) → k 1 q) (h0 : (¬ ∃ j : Nat, j < C ∧ x = nI j) → k 0 q) : wX1_has k q x := by
  have hb := below (x := x) hC (by omega)
  unfold wX1_has wX1_has_b22 wX1_has_b23
  rw [h5]
  refine ⟨fun c => ⟨rfl, h0 (fun z => (hb.mpr z).1 c)⟩, fun c => ⟨fun c2 => ⟨rfl, h0 (fun z => (hb.mpr z).2.1 c2)⟩, fun c2 => ⟨fun c3 => ⟨rfl, h0 (fun z => (hb.mpr z).2.2 c3)⟩, fun c3 => ⟨rfl, h1 (hb.mp ⟨c, c2, c3⟩)⟩⟩⟩⟩
theorem isIn_nI {j a b : Nat} (hj : j < 2 ^ 31) (hb : b < 2 ^ 31) (h1 : a ≤ j) (h2 : j ≤ b) : isIn (nI j) (nI a) (nI b) := by
  unfold isIn; rw [nI_ltI hj (by omega), nI_ltI hb hj]; omega
theorem c_term {k : Int32 → qS → Prop} {q : qS} {C c : Nat} (h5 : q 0 5 = nI C) (hC : C ≤ 12) (hc : c < C) (j : Nat) (hj : j < 6) (h : k (q 12 (6 * c + j)) q) : wX1_term k q (nI c) (nI j) := by
  unfold wX1_term
  refine c_hasC h5 hC (fun _ => ⟨fun z => absurd z (by decide), fun _ => c_in (fun _ => ⟨fun _ => ?_, fun z => absurd z (by decide)⟩) (fun z => absurd (isIn_nI (a := 0) (b := 5) (by omega) (by omega) (by omega) (by omega)) z)⟩) (fun z => absurd ⟨c, hc, rfl⟩ z)
  rw [show (6 : Int32) = nI 6 from rfl, pk_mul, nI_add, nI_clamp (by omega), Nat.mul_comm c 6]
  exact ⟨vp_in_nI (by omega) (by omega), h⟩
theorem ful_pos (v : vS) : ∀ n j, n ≤ 8 → fulF v n = nI j → j < 2 ^ 31 → ¬ v (26 + 4 * j) ≤ 0
  | 0, j, _, h, hj => absurd h (fun z => nI_ne6 hj z.symm)
  | n + 1, j, hn, h, hj => by
    unfold fulF at h
    have last : nI n = nI j → ¬ v (26 + 4 * n) ≤ 0 → ¬ v (26 + 4 * j) ≤ 0 := fun e hp => by
      rw [nI_eq (by omega) hj] at e; subst e; exact hp
    by_cases c1 : v (26 + 4 * n) ≤ 0
    · rw [if_pos c1] at h; exact ful_pos v n j (by omega) h hj
    · rw [if_neg c1] at h
      by_cases c2 : fulF v n = -6
      · rw [if_pos c2] at h; exact last h c1
      · rw [if_neg c2] at h
        by_cases c3 : v (26 + 4 * n) ≤ v (26 + 4 * nn (fulF v n))
        · rw [if_pos c3] at h; exact ful_pos v n j (by omega) h hj
        · rw [if_neg c3] at h; exact last h c1
