/-! ===== the reference's methods over the 210 numbers: what their conditions come to (leaves) ===== -/
theorem e_in {k : Int32 → Prop} {x a b : Int32} (h : k (if x < a ∨ b < x then 0 else 1)) : wX10_in k x a b := by
  unfold wX10_in wX10_in_b14 wX10_in_b15
  refine ⟨fun c => ⟨rfl, ?_⟩, fun c => ⟨fun c2 => ⟨rfl, ?_⟩, fun c2 => ⟨rfl, ?_⟩⟩⟩
  · rw [if_pos (Or.inl c)] at h; exact h
  · rw [if_pos (Or.inr c2)] at h; exact h
  · rw [if_neg (fun q => q.elim c c2)] at h; exact h
theorem e_in1 {k : Int32 → Prop} {x a b : Int32} (ha : a ≤ x) (hb : x ≤ b) (h : k 1) : wX10_in k x a b :=
  e_in (by rw [if_neg (by rw [Int32.lt_iff_toInt_lt, Int32.lt_iff_toInt_lt]; rw [Int32.le_iff_toInt_le] at ha hb; omega)]; exact h)
theorem e_faceOf {k : Int32 → qS → Prop} {q : qS} (f w : Nat) (hb : 26 + 4 * f + w < 210) (h : k (q 1 (26 + 4 * f + w)) q) : wX10_faceOf k q (nI f) (nI w) := by
  unfold wX10_faceOf
  rw [ix26, nI_add, nI_clamp (by omega)]
  exact ⟨vp_in_nI hb (by omega), h⟩
theorem e_truckOf {k : Int32 → qS → Prop} {q : qS} (f w : Nat) (hb : 58 + 4 * f + w < 210) (h : k (q 1 (58 + 4 * f + w)) q) : wX10_truckOf k q (nI f) (nI w) := by
  unfold wX10_truckOf
  rw [ix58, nI_add, nI_clamp (by omega)]
  exact ⟨vp_in_nI hb (by omega), h⟩
theorem e_asks {k : Int32 → qS → Prop} {q : qS} (c w : Nat) (hb : 138 + 6 * c + w < 210) (h : k (trF (q 1) c w) q) : wX10_asks k q (nI c) (nI w) := by
  unfold wX10_asks
  rw [ix138, nI_add, nI_clamp (by omega)]
  exact ⟨vp_in_nI hb (by omega), h⟩
theorem e_up {k : Int32 → Prop} {x y : Int32} (h : k (upF x y)) : wX10_up k x y := h
theorem e_capacity {k : Int32 → qS → Prop} {q : qS} (h : k (capF (q 1)) q) : wX10_capacity k q := by
  unfold wX10_capacity wX10_capacity_b29
  intro y e
  subst e
  refine ⟨fun c => ?_, fun c => ?_⟩
  · unfold capF at h; rw [if_pos c] at h; exact h
  · unfold capF at h; rw [if_neg c] at h; exact h
/-- copies: the 210 numbers aside, and back -/
theorem e_putAside_l {k : qS → Prop} {q : qS} : ∀ (d i n : Nat) (f : Nat → Int32), i + d = 210 → d < n → k (upA q 2 (fun j => if j < 210 ∧ i ≤ j then q 1 j else f j)) → wX10_putAside_b2 k n (upA q 2 f) (nI i) := by
  intro d
  induction d with
  | zero =>
    intro i n f hi hn h
    obtain ⟨n, rfl⟩ : ∃ m, n = m + 1 := ⟨n - 1, by omega⟩
    unfold wX10_putAside_b2
    refine pk_le 210 i (fun _ => ?_) (fun c => by omega) rfl rfl (by omega) (by omega)
    have e : (fun j => if j < 210 ∧ i ≤ j then q 1 j else f j) = f := by funext j; rw [if_neg (by omega)]
    rw [e] at h
    exact h
  | succ d ih =>
    intro i n f hi hn h
    obtain ⟨n, rfl⟩ : ∃ m, n = m + 1 := ⟨n - 1, by omega⟩
    unfold wX10_putAside_b2
    refine pk_le 210 i (fun c => by omega) (fun c => ?_) rfl rfl (by omega) (by omega)
    refine ⟨vp_in_nI (by omega) (by omega), fun y ey => ⟨vp_in_nI (by omega) (by omega), fun q2 e2 y3 e3 => ?_⟩⟩
    rw [e3, nI_1, e2, ey, up2_A, upA_A, upA_s, upA_n (by omega), nI_clamp (by omega)]
    refine ih (i + 1) n _ (by omega) (by omega) ?_
    have e : (fun j => if j < 210 ∧ i + 1 ≤ j then q 1 j else upd f i (q 1 i) j) = (fun j => if j < 210 ∧ i ≤ j then q 1 j else f j) := by
      funext j
      unfold upd
      by_cases c1 : j = i
      · subst c1; rw [if_neg (by omega), if_pos rfl, if_pos (by omega)]
      · by_cases c2 : j < 210 ∧ i ≤ j
        · rw [if_pos (by omega), if_pos c2]
        · rw [if_neg (by omega), if_neg c1, if_neg c2]
    rw [e]
    exact h
theorem e_putAside {k : qS → Prop} {q : qS} (h : k (upA q 2 (fun j => if j < 210 then q 1 j else q 2 j))) : wX10_putAside k q := by
  refine ⟨211, ?_⟩
  have h2 := e_putAside_l (k := k) (q := q) 210 0 211 (q 2) (by omega) (by omega)
  rw [upA_id] at h2
  refine h2 ?_
  have e : (fun j => if j < 210 ∧ 0 ≤ j then q 1 j else q 2 j) = (fun j => if j < 210 then q 1 j else q 2 j) := by
    funext j; by_cases c : j < 210
    · rw [if_pos ⟨c, Nat.zero_le j⟩, if_pos c]
    · rw [if_neg (fun z => c z.1), if_neg c]
  rw [e]
  exact h
theorem e_takeBack_l {k : qS → Prop} {q : qS} : ∀ (d i n : Nat) (f : Nat → Int32), i + d = 210 → d < n → k (upA q 1 (fun j => if j < 210 ∧ i ≤ j then q 2 j else f j)) → wX10_takeBack_b2 k n (upA q 1 f) (nI i) := by
  intro d
  induction d with
  | zero =>
    intro i n f hi hn h
    obtain ⟨n, rfl⟩ : ∃ m, n = m + 1 := ⟨n - 1, by omega⟩
    unfold wX10_takeBack_b2
    refine pk_le 210 i (fun _ => ?_) (fun c => by omega) rfl rfl (by omega) (by omega)
    have e : (fun j => if j < 210 ∧ i ≤ j then q 2 j else f j) = f := by funext j; rw [if_neg (by omega)]
    rw [e] at h
    exact h
  | succ d ih =>
    intro i n f hi hn h
    obtain ⟨n, rfl⟩ : ∃ m, n = m + 1 := ⟨n - 1, by omega⟩
    unfold wX10_takeBack_b2
    refine pk_le 210 i (fun c => by omega) (fun c => ?_) rfl rfl (by omega) (by omega)
    refine ⟨vp_in_nI (by omega) (by omega), fun y ey => ⟨vp_in_nI (by omega) (by omega), fun q2 e2 y3 e3 => ?_⟩⟩
    rw [e3, nI_1, e2, ey, up2_A, upA_A, upA_s, upA_n (by omega), nI_clamp (by omega)]
    refine ih (i + 1) n _ (by omega) (by omega) ?_
    have e : (fun j => if j < 210 ∧ i + 1 ≤ j then q 2 j else upd f i (q 2 i) j) = (fun j => if j < 210 ∧ i ≤ j then q 2 j else f j) := by
      funext j
      unfold upd
      by_cases c1 : j = i
      · subst c1; rw [if_neg (by omega), if_pos rfl, if_pos (by omega)]
      · by_cases c2 : j < 210 ∧ i ≤ j
        · rw [if_pos (by omega), if_pos c2]
        · rw [if_neg (by omega), if_neg c1, if_neg c2]
    rw [e]
    exact h
theorem e_takeBack {k : qS → Prop} {q : qS} (h : k (upA q 1 (fun j => if j < 210 then q 2 j else q 1 j))) : wX10_takeBack k q := by
  refine ⟨211, ?_⟩
  have h2 := e_takeBack_l (k := k) (q := q) 210 0 211 (q 1) (by omega) (by omega)
  rw [upA_id] at h2
  refine h2 ?_
  have e : (fun j => if j < 210 ∧ 0 ≤ j then q 2 j else q 1 j) = (fun j => if j < 210 then q 2 j else q 1 j) := by
    funext j; by_cases c : j < 210
    · rw [if_pos ⟨c, Nat.zero_le j⟩, if_pos c]
    · rw [if_neg (fun z => c z.1), if_neg c]
  rw [e]
  exact h
/-- the fullest face -/
theorem fulF_cases (v : vS) : ∀ n, fulF v n = -6 ∨ ∃ j, j < n ∧ fulF v n = nI j
  | 0 => Or.inl rfl
  | n + 1 => by
    have ih := fulF_cases v n
    unfold fulF
    split
    · rcases ih with h | ⟨j, h1, h2⟩
      · exact Or.inl h
      · exact Or.inr ⟨j, by omega, h2⟩
    · split
      · exact Or.inr ⟨n, by omega, rfl⟩
      · split
        · rcases ih with h | ⟨j, h1, h2⟩
          · exact Or.inl h
          · exact Or.inr ⟨j, by omega, h2⟩
        · exact Or.inr ⟨n, by omega, rfl⟩
theorem nI_ne6 {j : Nat} (h : j < 2 ^ 31) : ¬ nI j = -6 := by
  intro e
  have e2 := congrArg Int32.toInt e
  rw [nI_toInt h] at e2
  have e3 : (-6 : Int32).toInt = -6 := by decide
  omega
theorem e_fullest_l {k : Int32 → qS → Prop} {q : qS} {F : Nat} (hF : q 1 7 = nI F) (hF8 : F ≤ 8) : ∀ (d i n : Nat), i + d = F → d < n → k (fulF (q 1) F) q → wX10_fullest_b5 k n q (fulF (q 1) i) (nI i) := by
  intro d
  induction d with
  | zero =>
    intro i n hi hn h
    obtain ⟨n, rfl⟩ : ∃ m, n = m + 1 := ⟨n - 1, by omega⟩
    unfold wX10_fullest_b5
    refine pk_le F i (fun _ => ?_) (fun c => by omega) hF rfl (by omega) (by omega)
    rw [show i = F from by omega]
    exact h
  | succ d ih =>
    intro i n hi hn h
    obtain ⟨n, rfl⟩ : ∃ m, n = m + 1 := ⟨n - 1, by omega⟩
    unfold wX10_fullest_b5
    refine pk_le F i (fun c => by omega) (fun c => ?_) hF rfl (by omega) (by omega)
    refine e_faceOf i 0 (by omega) ?_
    have hn2 := ih (i + 1) n (by omega) (by omega) h
    rw [fulF] at hn2
    unfold wX10_fullest_b50 wX10_fullest_b46 wX10_fullest_b51
    refine ⟨fun c1 => ?_, fun c1 => ⟨fun c2 => ?_, fun c2 => ?_⟩⟩
    · intro y ey; rw [ey, nI_1]; rw [if_pos (show q 1 (26 + 4 * i) ≤ 0 from c1)] at hn2; exact hn2
    · intro y ey; rw [ey, nI_1]; rw [if_neg (show ¬ q 1 (26 + 4 * i) ≤ 0 from c1), if_pos c2] at hn2; exact hn2
    · rcases fulF_cases (q 1) i with z | ⟨j, hj, z⟩
      · exact absurd z c2
      · rw [if_neg (show ¬ q 1 (26 + 4 * i) ≤ 0 from c1), if_neg c2] at hn2
        rw [z] at hn2 ⊢
        unfold nn at hn2
        rw [nI_clamp (by omega)] at hn2
        refine e_faceOf i 0 (by omega) (e_faceOf j 0 (by omega) ⟨fun c3 => ?_, fun c3 => ?_⟩)
        · intro y ey; rw [ey, nI_1]; rw [if_pos (show q 1 (26 + 4 * i) ≤ q 1 (26 + 4 * j) from c3)] at hn2; exact hn2
        · intro y ey; rw [ey, nI_1]; rw [if_neg (show ¬ q 1 (26 + 4 * i) ≤ q 1 (26 + 4 * j) from c3)] at hn2; exact hn2
theorem e_fullest {k : Int32 → qS → Prop} {q : qS} {F : Nat} (hF : q 1 7 = nI F) (hF8 : F ≤ 8) (h : k (fulF (q 1) F) q) : wX10_fullest k q :=
  ⟨F + 1, e_fullest_l hF hF8 F 0 (F + 1) (by omega) (by omega) h⟩
