/-! ===== the reference: recorded states ===== -/
theorem e_rec52 {k : qS → Prop} {q : qS} {u : Nat} (hu : u < 6) (h4 : q 0 4 = nI u) : ∀ (d i n : Nat) (f : Nat → Int32), i + d = 210 → d < n → k (up2 (upA q 3 (fun j => if 210 * u + i ≤ j ∧ j < 210 * u + 210 then q 1 (j - 210 * u) else f j)) 0 4 (nI (u + 1))) → wX10_records_b52 k n (upA q 3 f) (nI i) := by
  intro d
  induction d with
  | zero =>
    intro i n f hi hn h
    obtain ⟨n, rfl⟩ : ∃ m, n = m + 1 := ⟨n - 1, by omega⟩
    unfold wX10_records_b52
    refine pk_le 210 i (fun _ y e y2 e2 => ?_) (fun c => by omega) rfl rfl (by omega) (by omega)
    rw [e2, e, upA_n (by decide), h4, nI_1]
    have e3 : (fun j => if 210 * u + i ≤ j ∧ j < 210 * u + 210 then q 1 (j - 210 * u) else f j) = f := by funext j; rw [if_neg (by omega)]
    rw [e3] at h
    exact h
  | succ d ih =>
    intro i n f hi hn h
    obtain ⟨n, rfl⟩ : ∃ m, n = m + 1 := ⟨n - 1, by omega⟩
    unfold wX10_records_b52
    refine pk_le 210 i (fun c => by omega) (fun _ => ?_) rfl rfl (by omega) (by omega)
    have e0 : upA q 3 f 0 4 = nI u := by rw [upA_n (by decide)]; exact h4
    rw [e0, ix210, nI_clamp (by omega), nI_clamp (by omega), upA_n (by decide)]
    refine ⟨vp_in_nI (by omega) (by omega), fun y ey => ⟨vp_in_nI (by omega) (by omega), fun q4 e4 y5 e5 => ?_⟩⟩
    rw [e5, e4, ey, nI_1, up2_A, upA_A, upA_s]
    refine ih (i + 1) n _ (by omega) (by omega) ?_
    have e : (fun j => if 210 * u + (i + 1) ≤ j ∧ j < 210 * u + 210 then q 1 (j - 210 * u) else upd f (210 * u + i) (q 1 i) j) = (fun j => if 210 * u + i ≤ j ∧ j < 210 * u + 210 then q 1 (j - 210 * u) else f j) := by
      funext j
      by_cases c1 : j = 210 * u + i
      · subst c1; rw [if_neg (by omega), upd_s, if_pos (by omega)]
        exact congrArg (q 1) (by omega)
      · rw [upd_n c1]
        by_cases c2 : 210 * u + i ≤ j ∧ j < 210 * u + 210
        · rw [if_pos (by omega), if_pos c2]
        · rw [if_neg (by omega), if_neg c2]
    rw [e]
    exact h
theorem e_rec50 {k : qS → Prop} {q : qS} {u : Nat} (hu : u < 6) (h4 : q 0 4 = nI u) (h : k (up2 (upA q 3 (fun j => if 210 * u ≤ j ∧ j < 210 * u + 210 then q 1 (j - 210 * u) else q 3 j)) 0 4 (nI (u + 1)))) : wX10_records_b50 k q := by
  have L := e_rec52 (k := k) hu h4 210 0 211 (q 3) (by omega) (by omega)
  rw [upA_id] at L
  exact ⟨211, L h⟩
theorem e_rec11 {k : qS → Prop} {q : qS} (h4 : q 0 4 = nI 6) : ∀ (d i n : Nat), i + d = 1050 → d < n → wX10_records_b50 k (up2 (upA q 3 (fun j => if j < 1050 then q 3 (j + 210) else q 3 j)) 0 4 (nI 5)) → wX10_records_b11 k n (upA q 3 (fun j => if j < i then q 3 (j + 210) else q 3 j)) (nI i) := by
  intro d
  induction d with
  | zero =>
    intro i n hi hn h
    obtain ⟨n, rfl⟩ : ∃ m, n = m + 1 := ⟨n - 1, by omega⟩
    obtain rfl : i = 1050 := by omega
    unfold wX10_records_b11
    refine pk_le 1050 1050 (fun _ y e y2 e2 => ?_) (fun c => by omega) rfl rfl (by omega) (by omega)
    rw [e2, e, upA_n (by decide), h4, nI_pred]
    exact h
  | succ d ih =>
    intro i n hi hn h
    obtain ⟨n, rfl⟩ : ∃ m, n = m + 1 := ⟨n - 1, by omega⟩
    unfold wX10_records_b11
    refine pk_le 1050 i (fun c => by omega) (fun _ => ?_) rfl rfl (by omega) (by omega)
    rw [ixp210, nI_clamp (by omega), nI_clamp (by omega), upA_s, if_neg (by omega)]
    refine ⟨vp_in_nI (by omega) (by omega), fun y ey => ⟨vp_in_nI (by omega) (by omega), fun q4 e4 y5 e5 => ?_⟩⟩
    rw [e5, e4, ey, nI_1, up2_A, upA_A, upA_s]
    have e : upd (fun j => if j < i then q 3 (j + 210) else q 3 j) i (q 3 (i + 210)) = (fun j => if j < i + 1 then q 3 (j + 210) else q 3 j) := by
      funext j
      by_cases c1 : j = i
      · subst c1; rw [upd_s, if_pos (by omega)]
      · rw [upd_n c1]
        by_cases c2 : j < i
        · rw [if_pos c2, if_pos (by omega)]
        · rw [if_neg c2, if_neg (by omega)]
    rw [e]
    exact ih (i + 1) n (by omega) (by omega) h
/-- the recorded states behind one more: the u-th place holds what the 210 numbers are; of six the oldest is gone -/
def recF (q : qS) (u : Nat) : Nat → Int32 := fun j =>
  if u = 6 then (if 1050 ≤ j ∧ j < 1260 then q 1 (j - 1050) else if j < 1050 then q 3 (j + 210) else q 3 j) else if 210 * u ≤ j ∧ j < 210 * u + 210 then q 1 (j - 210 * u) else q 3 j
theorem e_records {k : qS → Prop} {q : qS} {u : Nat} (hu : u ≤ 6) (h4 : q 0 4 = nI u) (h : k (up2 (upA q 3 (recF q u)) 0 4 (nI (if u = 6 then 6 else u + 1)))) : wX10_records k q := by
  unfold wX10_records
  by_cases c : u = 6
  · subst c
    refine ⟨fun z => absurd h4 z, fun _ => ?_⟩
    have L := e_rec11 (k := k) h4 1050 0 1051 (by omega) (by omega)
    have e0 : (fun j => if j < 0 then q 3 (j + 210) else q 3 j) = q 3 := by funext j; rw [if_neg (by omega)]
    rw [e0, upA_id] at L
    refine ⟨1051, L (e_rec50 (u := 5) (by omega) (by rw [up2_A, upA_s, upd_s]) ?_)⟩
    rw [if_pos rfl] at h
    have e1 : up2 (upA (up2 (upA q 3 (fun j => if j < 1050 then q 3 (j + 210) else q 3 j)) 0 4 (nI 5)) 3 (fun j => if 210 * 5 ≤ j ∧ j < 210 * 5 + 210 then (up2 (upA q 3 (fun j => if j < 1050 then q 3 (j + 210) else q 3 j)) 0 4 (nI 5)) 1 (j - 210 * 5) else (up2 (upA q 3 (fun j => if j < 1050 then q 3 (j + 210) else q 3 j)) 0 4 (nI 5)) 3 j)) 0 4 (nI (5 + 1)) = up2 (upA q 3 (recF q 6)) 0 4 (nI 6) := by
      have f1 : (fun j => if 210 * 5 ≤ j ∧ j < 210 * 5 + 210 then (up2 (upA q 3 (fun j => if j < 1050 then q 3 (j + 210) else q 3 j)) 0 4 (nI 5)) 1 (j - 210 * 5) else (up2 (upA q 3 (fun j => if j < 1050 then q 3 (j + 210) else q 3 j)) 0 4 (nI 5)) 3 j) = recF q 6 := by
        funext j
        unfold recF
        rw [if_pos rfl, up2_A, upA_n (by decide), upA_n (by decide), upA_n (by decide), upA_s]
      rw [f1]
      simp only [up2_A]
      funext i
      by_cases i0 : i = 0
      · subst i0
        rw [upA_s, upA_s, upA_n (by decide), upA_s, upA_n (by decide), upA_n (by decide), upd_upd]
      · rw [upA_n i0, upA_n i0]
        by_cases i3 : i = 3
        · subst i3; rw [upA_s, upA_s]
        · rw [upA_n i3, upA_n i0, upA_n i3, upA_n i3]
    rw [e1]
    exact h
  · refine ⟨fun _ => e_rec50 (by omega) h4 ?_, fun z => absurd z (by rw [h4, show (6 : Int32) = nI 6 from rfl, nI_eq (by omega) (by omega)]; exact c)⟩
    rw [if_neg c] at h
    have e : recF q u = (fun j => if 210 * u ≤ j ∧ j < 210 * u + 210 then q 1 (j - 210 * u) else q 3 j) := by funext j; unfold recF; rw [if_neg c]
    rw [e] at h
    exact h
