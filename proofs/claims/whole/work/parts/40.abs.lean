/-! ===== the pure side: the quarry as 210 numbers (the reference's own layout), what its methods do to it ===== -/
abbrev vS : Type := Nat → Int32
theorem upA_s {q : qS} {n : Nat} {f : Nat → Int32} : upA q n f n = f := by simp [upA]
theorem upA_n {q : qS} {n i : Nat} {f : Nat → Int32} (h : i ≠ n) : upA q n f i = q i := by simp [upA, h]
theorem up2_A (q : qS) (n k : Nat) (x : Int32) : up2 q n k x = upA q n (upd (q n) k x) := rfl
theorem upA_A (q : qS) (n : Nat) (f g : Nat → Int32) : upA (upA q n f) n g = upA q n g := by
  funext i; unfold upA; split <;> rfl
theorem upA_C (q : qS) (n m : Nat) (f g : Nat → Int32) (h : n ≠ m) : upA (upA q n f) m g = upA (upA q m g) n f := by
  funext i; unfold upA
  by_cases h1 : i = n <;> by_cases h2 : i = m
  · exact absurd (h1.symm.trans h2) h
  · simp [h1, h]
  · have h3 : m ≠ n := fun e => h e.symm
    simp [h2, h3]
  · simp [h1, h2]
theorem upA_id (q : qS) (n : Nat) : upA q n (q n) = q := by
  funext i; unfold upA; split
  · rename_i h; rw [h]
  · rfl
theorem upd_s {f : Nat → Int32} {k : Nat} {x : Int32} : upd f k x k = x := by simp [upd]
theorem upd_n {f : Nat → Int32} {k j : Nat} {x : Int32} (h : j ≠ k) : upd f k x j = f j := by simp [upd, h]
theorem upd_upd (f : Nat → Int32) (k : Nat) (x y : Int32) : upd (upd f k x) k y = upd f k y := by
  funext j; unfold upd; split <;> rfl
/-! indices -/
theorem ix26 (t : Nat) : (26 : Int32) + (4 : Int32) * nI t = nI (26 + 4 * t) := by rw [← nI_add, ← pk_mul]; rfl
theorem ix58 (t : Nat) : (58 : Int32) + (4 : Int32) * nI t = nI (58 + 4 * t) := by rw [← nI_add, ← pk_mul]; rfl
theorem ix138 (t : Nat) : (138 : Int32) + (6 : Int32) * nI t = nI (138 + 6 * t) := by rw [← nI_add, ← pk_mul]; rfl
theorem ix210 (t u : Nat) : (210 : Int32) * nI t + nI u = nI (210 * t + u) := by rw [← nI_add, ← pk_mul]; rfl
theorem ix16 (t : Nat) : (16 : Int32) + nI t = nI (16 + t) := by rw [← nI_add]; rfl
theorem ix14 (t : Nat) : (14 : Int32) + nI t = nI (14 + t) := by rw [← nI_add]; rfl
theorem ixp0 (t : Nat) : nI t + (0 : Int32) = nI t := by rw [show (0 : Int32) = nI 0 from rfl, nI_add]; rfl
theorem ixp1 (t : Nat) : nI t + (1 : Int32) = nI (t + 1) := nI_1 t
theorem ixp2 (t : Nat) : nI t + (2 : Int32) = nI (t + 2) := by rw [show (2 : Int32) = nI 2 from rfl, nI_add]
theorem ixp3 (t : Nat) : nI t + (3 : Int32) = nI (t + 3) := by rw [show (3 : Int32) = nI 3 from rfl, nI_add]
theorem ixp4 (t : Nat) : nI t + (4 : Int32) = nI (t + 4) := by rw [show (4 : Int32) = nI 4 from rfl, nI_add]
theorem ixp5 (t : Nat) : nI t + (5 : Int32) = nI (t + 5) := by rw [show (5 : Int32) = nI 5 from rfl, nI_add]
theorem ixp6 (t : Nat) : nI t + (6 : Int32) = nI (t + 6) := by rw [show (6 : Int32) = nI 6 from rfl, nI_add]
theorem ixp210 (t : Nat) : nI t + (210 : Int32) = nI (t + 210) := by rw [show (210 : Int32) = nI 210 from rfl, nI_add]
/-- an int that is a small number -/
def sm (x : Int32) (n : Nat) : Prop := ∃ j : Nat, j ≤ n ∧ x = nI j
/-- an int between bounds -/
def rg (x : Int32) (a b : Int) : Prop := a ≤ x.toInt ∧ x.toInt ≤ b
theorem rg_sm {x : Int32} {a b : Int} {n : Nat} (h : rg x a b) (ha : 0 ≤ a) (hb : b ≤ n) : ∃ j : Nat, j ≤ n ∧ a ≤ j ∧ (j : Int) ≤ b ∧ x = nI j := by
  obtain ⟨h1, h2⟩ := h
  obtain ⟨j, hj, e⟩ := nI_of (x := x) (by rw [Int32.lt_iff_toInt_lt]; show ¬ x.toInt < 0; omega)
  subst e
  rw [nI_toInt hj] at h1 h2
  exact ⟨j, by omega, h1, h2, rfl⟩
theorem rg_nI {j : Nat} {a b : Int} (hj : j < 2 ^ 31) (h1 : a ≤ j) (h2 : (j : Int) ≤ b) : rg (nI j) a b := by
  unfold rg; rw [nI_toInt hj]; exact ⟨h1, h2⟩
/-! ## what the reference's methods do -/
/-- the number of a setting, count or hour as a natural number -/
abbrev nn (x : Int32) : Nat := x.toNatClampNeg
/-- the fullest of the first n faces: its number, or -6 -/
def fulF (v : vS) : Nat → Int32
  | 0 => -6
  | n + 1 => if v (26 + 4 * n) ≤ 0 then fulF v n else if fulF v n = -6 then nI n else if v (26 + 4 * n) ≤ v (26 + 4 * nn (fulF v n)) then fulF v n else nI n
def comesF (v : vS) (t : Nat) : vS :=
  if v (58 + 4 * t) ≤ 0 then v else if ¬ v (60 + 4 * t) = v 6 then v else
    upd (upd (upd (upd v (16 + nn (v (27 + 4 * (nn (v (58 + 4 * t)) - 1)))) (v (16 + nn (v (27 + 4 * (nn (v (58 + 4 * t)) - 1)))) + v (59 + 4 * t))) (58 + 4 * t) 0) (59 + 4 * t) 0) (60 + 4 * t) 0
/-- a truck t is sent to the face f with the load z -/
def sendF (v : vS) (t f : Nat) (z : Int32) : vS :=
  upd (upd (upd (upd (upd (upd (upd v (26 + 4 * f) (v (26 + 4 * f) - z)) (29 + 4 * f) (v (29 + 4 * f) + z)) (58 + 4 * t) (nI f + 1)) (59 + 4 * t) z) (60 + 4 * t) (v 6 + v (28 + 4 * f))) (61 + 4 * t) (v (61 + 4 * t) + 1)) 13 (v 13 + v 5 * v (28 + 4 * f))
def goesF (v : vS) (t : Nat) : vS :=
  if ¬ v (58 + 4 * t) = 0 then v else if fulF v (nn (v 7)) = -6 then v else
    sendF v t (nn (fulF v (nn (v 7)))) (if v 1 ≤ v (26 + 4 * nn (fulF v (nn (v 7)))) then v 1 else v (26 + 4 * nn (fulF v (nn (v 7)))))
/-- z tonnes of the hardness h are crushed with the gap g -/
def crushF (v : vS) (h : Nat) (g z : Int32) : vS :=
  upd (upd (upd (upd (upd (upd v (16 + h) (v (16 + h) - z)) 14 (v 14 + z * (10 - g) * (10 - nI h) / 100)) 15 (v 15 + (z - z * (10 - g) * (10 - nI h) / 100 - z * g * nI h / 100))) 16 (v 16 + z * g * nI h / 100)) 9 (v 9 + z)) 10 (v 10 + z * nI h)
def capF (v : vS) : Int32 := if 1 ≤ v 4 - v 10 / 1000 then v 4 - v 10 / 1000 else 1
/-- the hardnesses from h on (d of them), with what is left of the hour's tonnes -/
def crushL (g : Int32) : Nat → Nat → vS → Int32 → vS
  | 0, _, v, _ => v
  | d + 1, h, v, left => crushL g d (h + 1) (crushF v h g (if left ≤ v (16 + h) then left else v (16 + h))) (left - if left ≤ v (16 + h) then left else v (16 + h))
def comesL : Nat → Nat → vS → vS
  | 0, _, v => v
  | d + 1, t, v => comesL d (t + 1) (comesF v t)
def goesL : Nat → Nat → vS → vS
  | 0, _, v => v
  | d + 1, t, v => goesL d (t + 1) (goesF v t)
def hourF (v : vS) : vS :=
  let v1 := goesL (nn (v 0)) 0 (comesL (nn (v 0)) 0 v)
  let v2 := crushL (v1 3) 9 1 v1 (capF v1)
  upd v2 6 (v2 6 + 1)
def hoursF : Nat → vS → vS
  | 0, v => v
  | n + 1, v => hoursF n (hourF v)
/-! contracts -/
def upF (h t : Int32) : Int32 := (h * t + 99) / 100
def trF (v : vS) (c j : Nat) : Int32 := v (138 + 6 * c + j)
abbrev sieveF (v : vS) (c : Nat) : Prop := ¬ trF v c 2 * trF v c 0 / 100 < upF (trF v c 1) (trF v c 0) ∧ ¬ trF v c 4 * trF v c 0 / 100 < upF (trF v c 3) (trF v c 0) ∧ ¬ trF v c 0 < upF (trF v c 1) (trF v c 0) + upF (trF v c 3) (trF v c 0)
/-- the most coarse tonnes of a blend, and the fewest fine ones with it -/
def coarseF (v : vS) (c : Nat) : Int32 :=
  let m := if v 16 < trF v c 4 * trF v c 0 / 100 then v 16 else trF v c 4 * trF v c 0 / 100
  if trF v c 0 - upF (trF v c 1) (trF v c 0) < m then trF v c 0 - upF (trF v c 1) (trF v c 0) else m
def fineF (v : vS) (c : Nat) : Int32 :=
  let m := trF v c 0 - coarseF v c - v 15
  if upF (trF v c 1) (trF v c 0) < m then m else upF (trF v c 1) (trF v c 0)
def reasonF (v : vS) (c : Nat) : Int32 :=
  if ¬ trF v c 0 ≤ v 14 + v 15 + v 16 then 1 else if ¬ sieveF v c then 2 else if ¬ upF (trF v c 1) (trF v c 0) ≤ v 14 then 3 else if ¬ upF (trF v c 3) (trF v c 0) ≤ v 16 then 4 else if trF v c 2 * trF v c 0 / 100 < fineF v c ∨ v 14 < fineF v c then 5 else 0
def dropF (v : vS) (c : Nat) : vS := fun j =>
  if j = 8 then v 8 - 1 else
  if 138 + 6 * c ≤ j ∧ j < 138 + 6 * (nn (v 8) - 1) then v (j + 6) else
  if 138 + 6 * (nn (v 8) - 1) ≤ j ∧ j < 138 + 6 * (nn (v 8) - 1) + 6 then 0 else v j
def deliverF (v : vS) (c : Nat) : vS :=
  dropF (upd (upd (upd (upd (upd v 14 (v 14 - fineF v c)) 15 (v 15 - (trF v c 0 - fineF v c - coarseF v c))) 16 (v 16 - coarseF v c)) 12 (v 12 + trF v c 0 * trF v c 5)) 11 (v 11 + 1)) c
/-- d contracts are looked at, from c on -/
def deliverL : Nat → Nat → vS → vS
  | 0, _, v => v
  | d + 1, c, v => if reasonF v c = 0 then deliverL d c (deliverF v c) else deliverL d (c + 1) v
def dayF (v : vS) : vS := let v1 := hoursF (nn (v 2)) v; deliverL (nn (v1 8)) 0 v1
def daysF : Nat → vS → vS
  | 0, v => v
  | n + 1, v => daysF n (dayF v)
