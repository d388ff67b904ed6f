/-! ===== put: the characters of a long number ===== -/
def uN (x : Int64) : Nat := x.toUInt64.toNat
theorem uN_lt (x : Int64) : uN x < 2 ^ 64 := x.toUInt64.toNat_lt
def byN (R j : Nat) : Nat := R / 256 ^ j % 256
/-- how many characters come from the number R, a read before; 0 if one is wrong -/
def chN : Nat → Nat → Nat → Nat
  | 0, _, a => a
  | f + 1, R, a => if R = 0 then a else if 33 ≤ R % 256 ∧ R % 256 ≤ 126 then chN f (R / 256) (a + 1) else 0
theorem byN_0 (R : Nat) : byN R 0 = R % 256 := by unfold byN; rw [Nat.pow_zero, Nat.div_one]
theorem byN_s (R j : Nat) : byN (R / 256) j = byN R (j + 1) := by
  unfold byN; rw [Nat.div_div_eq_div_mul, Nat.pow_succ, Nat.mul_comm]
theorem byN_lt (R j : Nat) : byN R j < 256 := Nat.mod_lt _ (by decide)
theorem chN_ok : ∀ (f R a0 a : Nat), chN f R a0 = a → a ≠ 0 → a0 ≤ a ∧ a ≤ a0 + f ∧ ∀ j, j < a - a0 → 33 ≤ byN R j ∧ byN R j ≤ 126
  | 0, R, a0, a, h, h0 => by
    have e : a0 = a := h
    exact ⟨by omega, by omega, fun j hj => by omega⟩
  | f + 1, R, a0, a, h, h0 => by
    unfold chN at h
    by_cases c : R = 0
    · rw [if_pos c] at h
      exact ⟨by omega, by omega, fun j hj => by omega⟩
    · rw [if_neg c] at h
      by_cases c2 : 33 ≤ R % 256 ∧ R % 256 ≤ 126
      · rw [if_pos c2] at h
        obtain ⟨h1, h2, h3⟩ := chN_ok f (R / 256) (a0 + 1) a h h0
        refine ⟨by omega, by omega, fun j hj => ?_⟩
        by_cases z : j = 0
        · subst z; rw [byN_0]; exact c2
        · obtain ⟨i, rfl⟩ : ∃ i, j = i + 1 := ⟨j - 1, by omega⟩
          rw [← byN_s]; exact h3 i (by omega)
      · rw [if_neg c2] at h; omega
theorem uN_0 (x : Int64) : x = 0 ↔ uN x = 0 := by
  constructor
  · intro h; rw [h]; decide
  · intro h
    exact Int64.toBitVec.inj (BitVec.eq_of_toNat_eq (x := x.toBitVec) (y := (0 : Int64).toBitVec) h)
theorem lg0 (x : Int64) : lg_cmp x 0 = 0 ↔ uN x = 0 := by
  rw [← uN_0]
  unfold lg_cmp
  by_cases h : x > 0
  · rw [if_pos h]
    exact ⟨fun e => absurd e (by decide), fun e => absurd h (by rw [e]; decide)⟩
  · rw [if_neg h]
    by_cases e : x = 0
    · rw [if_pos e]; exact ⟨fun _ => e, fun _ => rfl⟩
    · rw [if_neg e]; exact ⟨fun z => absurd z (by decide), fun z => absurd z e⟩
theorem sh_amt : ∀ j : Nat, j < 8 → (((8 : Int32) * nI j).toInt64.toUInt64 &&& Int64.toUInt64 63).toNat = 8 * j := by decide +kernel
theorem uN_sh (x : Int64) (j : Nat) (hj : j < 8) : uN ((x.toUInt64 >>> (((8 : Int32) * nI j).toInt64.toUInt64 &&& Int64.toUInt64 63)).toInt64) = uN x / 256 ^ j := by
  unfold uN
  rw [UInt64.toUInt64_toInt64, UInt64.toNat_shiftRight, sh_amt j hj, Nat.mod_eq_of_lt (by omega), Nat.shiftRight_eq_div_pow, Nat.pow_mul]
theorem uN_sh8 (x : Int64) : uN ((x.toUInt64 >>> ((8 : Int32).toInt64.toUInt64 &&& Int64.toUInt64 63)).toInt64) = uN x / 256 := by
  have e : ((8 : Int32).toInt64.toUInt64 &&& Int64.toUInt64 63).toNat = 8 := by decide +kernel
  unfold uN
  rw [UInt64.toUInt64_toInt64, UInt64.toNat_shiftRight, e, Nat.mod_eq_of_lt (by omega)]
  exact Nat.shiftRight_eq_div_pow _ 8
theorem uN_and (x : Int64) : uN (x &&& (255 : Int64)) = uN x % 256 := by
  unfold uN
  rw [Int64.toUInt64_and, UInt64.toNat_and]
  exact Nat.and_two_pow_sub_one_eq_mod _ 8
theorem uN_lo (x : Int64) : (x &&& (255 : Int64)).toInt32 = nI (uN x % 256) := by
  rw [Int64.toInt32_and, pk_and x.toInt32 (m := (255 : Int64).toInt32) 8 (by decide +kernel), Int64.toBitVec_toInt32, BitVec.signExtend_eq_setWidth_of_le _ (by decide), BitVec.toNat_setWidth]
  show nI (uN x % 2 ^ 32 % 2 ^ 8) = nI (uN x % 256)
  exact congrArg nI (by omega)
theorem ch_nar : ∀ b : Nat, b < 256 → vp_nar .char ((nI b).toUInt32 % 65536).toInt32 = nI b := by decide +kernel
theorem isIn_b {b l u : Nat} (hb : b < 2 ^ 31) (hl : l < 2 ^ 31) (hu : u < 2 ^ 31) : isIn (nI b) (nI l) (nI u) ↔ l ≤ b ∧ b ≤ u := by
  show ¬ (nI b < nI l ∨ nI u < nI b) ↔ _
  rw [nI_ltI hb hl, nI_ltI hu hb]
  omega
theorem c_chars_l {k : Int32 → Prop} : ∀ (f j nf : Nat) (x : Int64), j + f = 8 → f < nf → k (nI (chN f (uN x) j)) → wX5_charactersIn_b4 k nf (nI j) x := by
  intro f
  induction f with
  | zero =>
    intro j nf x hj hn h
    obtain ⟨nf, rfl⟩ : ∃ m, nf = m + 1 := ⟨nf - 1, by omega⟩
    unfold wX5_charactersIn_b4 wX5_charactersIn_b45
    exact pk_le 8 j (fun _ => h) (fun c => by omega) rfl rfl (by omega) (by omega)
  | succ f ih =>
    intro j nf x hj hn h
    obtain ⟨nf, rfl⟩ : ∃ m, nf = m + 1 := ⟨nf - 1, by omega⟩
    unfold wX5_charactersIn_b4 wX5_charactersIn_b45
    refine pk_le 8 j (fun c => by omega) (fun _ => ?_) rfl rfl (by omega) (by omega)
    unfold chN at h
    rw [lg0]
    refine ⟨fun c => by rw [if_pos c] at h; exact h, fun c => ?_⟩
    rw [if_neg c] at h
    rw [uN_lo]
    have hb : uN x % 256 < 256 := Nat.mod_lt _ (by decide)
    have hI := isIn_b (b := uN x % 256) (l := 33) (u := 126) (by omega) (by omega) (by omega)
    refine c_in (fun z => ⟨fun _ => ?_, fun z2 => absurd z2 (by decide)⟩) (fun z => ⟨fun z2 => absurd rfl z2, fun _ => ?_⟩)
    · rw [if_pos (hI.mp z)] at h
      intro y2 e2
      rw [e2, nI_1]
      exact ih (j + 1) nf _ (by omega) (by omega) (by rw [uN_sh8]; exact h)
    · rw [if_neg (fun z2 => z (hI.mpr z2))] at h
      exact h
theorem c_chars {k : Int32 → Prop} {x : Int64} (h : k (nI (chN 8 (uN x) 0))) : wX5_charactersIn k x := by
  unfold wX5_charactersIn
  exact ⟨9, c_chars_l 8 0 9 x (by omega) (by omega) h⟩
/-- the pad behind: a characters of R are appended to n -/
def putP (n a R : Nat) (pd : Nat → Int32) : Nat → Int32 := fun j => if j < n then pd j else nI (byN R (n + a - 1 - j))
theorem shiftC (x : Int64) (j : Nat) (hj : j < 8) : (((x.toUInt64 >>> (((8 : Int32) * nI j).toInt64.toUInt64 &&& Int64.toUInt64 63)).toInt64 &&& (255 : Int64))).toInt32 = nI (byN (uN x) j) := by
  rw [uN_lo, uN_sh x j hj]; rfl
theorem c_append_l {k : qS → Prop} {x : Int64} {n a : Nat} {pd : Nat → Int32} (ha : a ≤ 8) (hna : n + a ≤ 80) (hk : ∀ d2 : qS, d2 0 0 = nI (n + a) → (∀ j, j < n + a → d2 1 j = putP n a (uN x) pd j) → k d2) : ∀ (r i nf : Nat) (d : qS), i + r = a → r < nf → d 0 0 = nI (n + i) → (∀ j, j < n + i → d 1 j = putP n a (uN x) pd j) → wX5_append_b5 k nf d x (nI r - 1) := by
  intro r
  induction r with
  | zero =>
    intro i nf d hi hn h0 h1
    obtain ⟨nf, rfl⟩ : ∃ m, nf = m + 1 := ⟨nf - 1, by omega⟩
    obtain rfl : i = a := by omega
    unfold wX5_append_b5 wX5_append_b61
    exact ⟨fun _ => hk d h0 h1, fun c => absurd (by decide : nI 0 - 1 < 0) c⟩
  | succ r ih =>
    intro i nf d hi hn h0 h1
    obtain ⟨nf, rfl⟩ : ∃ m, nf = m + 1 := ⟨nf - 1, by omega⟩
    unfold wX5_append_b5 wX5_append_b61
    rw [nI_pred]
    refine ⟨fun c => absurd c (nI_pos (by omega)), fun _ => ?_⟩
    rw [h0]
    refine c_in (fun _ => ⟨fun z => absurd z (by decide), fun _ => ?_⟩) (fun c => absurd (isIn_nI (a := 0) (b := 79) (by omega) (by omega) (by omega) (by omega)) c)
    intro y1 e1
    rw [shiftC x r (by omega)] at e1
    refine ⟨vp_in_nI (by omega) (by omega), fun d2 e2 y3 e3 d4 e4 y5 e5 => ?_⟩
    rw [e1, ch_nar _ (byN_lt _ _), nI_clamp (by omega)] at e2
    have e20 : d2 0 0 = nI (n + i) := by rw [e2, up2_A, upA_n (by omega)]; exact h0
    rw [e20, nI_1] at e3
    rw [e3] at e4
    rw [e5, show nI r + (-1 : Int32) = nI r - 1 from (Int32.sub_eq_add_neg _ _).symm]
    refine ih (i + 1) nf d4 (by omega) (by omega) ?_ (fun j hj => ?_)
    · rw [e4, up2_A, upA_s, upd_s]; rfl
    · rw [e4, up2_A, upA_n (by omega), e2, up2_A, upA_s]
      by_cases c : j = n + i
      · rw [c, upd_s]; unfold putP; rw [if_neg (by omega)]
        exact congrArg (fun z => nI (byN (uN x) z)) (by omega)
      · rw [upd_n c]; exact h1 j (by omega)
theorem XD.put {d2 d : qS} {n a R : Nat} {pd : Nat → Int32} (h : XD d n pd) (hna : n + a ≤ 80) (hb : ∀ j, j < a → 33 ≤ byN R j ∧ byN R j ≤ 126) (h0 : d2 0 0 = nI (n + a)) (h1 : ∀ j, j < n + a → d2 1 j = putP n a R pd j) : XD d2 (n + a) (putP n a R pd) := by
  refine ⟨h0, hna, fun j hj => ⟨h1 j hj, ?_⟩⟩
  unfold putP
  by_cases c : j < n
  · rw [if_pos c]; exact (h.2.2 j c).2
  · rw [if_neg c]; exact ⟨_, (hb _ (by omega)).1, (hb _ (by omega)).2, rfl⟩
section PU
variable {q o d tq : qS} {zs : Nat → qS} {v : vS} {u : Nat} {L : Nat → vS} {sl : Nat → Int32} {S : Nat → vS} {n : Nat} {pd : Nat → Int32} {k : Int32 → qS → qS → qS → qS → (Nat → qS) → Prop}
theorem c_Xput {x : Int64} (h : XX q o d zs v u L sl S n pd) (h0 : chN 8 (uN x) 0 = 0 → k (-2) q o d tq zs) (h4 : chN 8 (uN x) 0 ≠ 0 → 80 < n + chN 8 (uN x) 0 → k (-4) q o d tq zs)
    (hk : ∀ a, chN 8 (uN x) 0 = a → a ≠ 0 → n + a ≤ 80 → ∀ d2, XX q o d2 zs v u L sl S (n + a) (putP n a (uN x) pd) → k (nI (n + a)) q o d2 tq zs) : wX9_put k q o d tq zs x := by
  obtain ⟨hq, hH, hS, hD⟩ := h
  unfold wX9_put
  refine c_chars ?_
  obtain ⟨a, ea⟩ : ∃ a, chN 8 (uN x) 0 = a := ⟨_, rfl⟩
  rw [ea] at h0 h4 ⊢
  by_cases c0 : a = 0
  · subst c0
    exact ⟨fun z => absurd rfl z, fun _ => h0 rfl⟩
  obtain ⟨-, a8, hb⟩ := chN_ok 8 (uN x) 0 a ea c0
  have n80 := hD.2.1
  refine ⟨fun _ => ?_, fun z => absurd z (nI_ne0 (by omega) (by omega))⟩
  rw [hD.1, nI_add]
  refine pk_le (n + a) 80 (fun c => ?_) (fun c => h4 c0 (by omega)) rfl rfl (by omega) (by omega)
  unfold wX5_append
  intro y6 e6
  rw [e6]
  refine ⟨9, c_append_l (n := n) (a := a) (pd := pd) (by omega) c (fun d2 g0 g1 => ?_) a 0 9 d (by omega) (by omega) hD.1 (fun j hj => ?_)⟩
  · rw [g0]
    exact hk a ea c0 c d2 ⟨hq, hH, hS, hD.put c (fun j hj => hb j (by omega)) g0 g1⟩
  · unfold putP; rw [if_pos (by omega)]; exact (hD.2.2 j (by omega)).1
end PU
section PM
variable {m : qS} {v : vS} {u : Nat} {L : Nat → vS} {sl : Nat → Int32} {S : Nat → vS} {n : Nat} {pd : Nat → Int32} {k : Int32 → qS → Prop}
/-- a wrong character was seen: the answer is BAD_VALUE, whatever comes -/
theorem e_put_no {x : Int64} {q : qS} (h : k (-2) q) : ∀ (f j nf : Nat) (y : Int64), j + f = 8 → f < nf → wX10_put_b13 k nf q x (nI j) y 0 := by
  intro f
  induction f with
  | zero =>
    intro j nf y hj hn
    obtain ⟨nf, rfl⟩ : ∃ m, nf = m + 1 := ⟨nf - 1, by omega⟩
    unfold wX10_put_b13 wX10_put_b72 wX10_put_b88
    exact pk_le 8 j (fun _ => ⟨fun _ => h, fun _ => ⟨fun _ => h, fun z => absurd rfl z⟩⟩) (fun c => by omega) rfl rfl (by omega) (by omega)
  | succ f ih =>
    intro j nf y hj hn
    obtain ⟨nf, rfl⟩ : ∃ m, nf = m + 1 := ⟨nf - 1, by omega⟩
    unfold wX10_put_b13 wX10_put_b72 wX10_put_b88 wX10_put_b56 wX10_put_b57
    refine pk_le 8 j (fun c => by omega) (fun _ => ⟨fun _ => ⟨fun _ => h, fun _ => ⟨fun _ => h, fun z => absurd rfl z⟩⟩, fun _ => ⟨fun _ => ?_, fun z => absurd rfl z⟩⟩) rfl rfl (by omega) (by omega)
    intro y1 e1
    rw [e1, nI_1]
    exact ih (j + 1) nf _ (by omega) (by omega)
theorem e_put_l {x : Int64} {q : qS} (h0 : chN 8 (uN x) 0 = 0 → k (-2) q) (hk : ∀ a, chN 8 (uN x) 0 = a → a ≠ 0 → (((q 0 8) + nI a) ≤ (80 : Int32) → (∃ n0 : Nat, wX10_put_b108 k n0 q x (nI a) (0 : Int32))) ∧ (¬ ((q 0 8) + nI a) ≤ (80 : Int32) → (k (-4 : Int32) q))) : ∀ (f j nf : Nat) (y : Int64), j + f = 8 → f < nf → uN y < 256 ^ f → chN f (uN y) j = chN 8 (uN x) 0 → wX10_put_b13 k nf q x (nI j) y 1 := by
  intro f
  induction f with
  | zero =>
    intro j nf y hj hn hy he
    obtain ⟨nf, rfl⟩ : ∃ m, nf = m + 1 := ⟨nf - 1, by omega⟩
    have e : j = chN 8 (uN x) 0 := he
    have y0 : uN y = 0 := by rw [Nat.pow_zero] at hy; omega
    unfold wX10_put_b13 wX10_put_b72 wX10_put_b88
    rw [lg0]
    exact pk_le 8 j (fun _ => ⟨fun z => absurd z (nI_ne0 (by omega) (by omega)), fun _ => ⟨fun z => absurd z (by decide), fun _ => ⟨fun _ => hk j e.symm (by omega), fun z => absurd y0 z⟩⟩⟩) (fun c => by omega) rfl rfl (by omega) (by omega)
  | succ f ih =>
    intro j nf y hj hn hy he
    obtain ⟨nf, rfl⟩ : ∃ m, nf = m + 1 := ⟨nf - 1, by omega⟩
    unfold chN at he
    have hb : uN y % 256 < 256 := Nat.mod_lt _ (by decide)
    have hI := isIn_b (b := uN y % 256) (l := 33) (u := 126) (by omega) (by omega) (by omega)
    unfold wX10_put_b13 wX10_put_b72 wX10_put_b88 wX10_put_b56 wX10_put_b57
    rw [lg0, lg0, uN_and, uN_lo]
    refine pk_le 8 j (fun c => by omega) (fun _ => ⟨fun z => ⟨fun z2 => ?_, fun z2 => ⟨fun z3 => absurd z3 (by decide), fun _ => ⟨fun z3 => ?_, fun z3 => ?_⟩⟩⟩, fun z => ⟨fun z2 => absurd z2 (by decide), fun _ => ?_⟩⟩) rfl rfl (by omega) (by omega)
    · have j0 : j = 0 := (nI_eq (by omega) (by omega)).mp z2
      by_cases c : uN y = 0
      · rw [if_pos c] at he; exact h0 (he.symm.trans j0)
      · rw [if_neg c, if_neg (by omega)] at he; exact h0 he.symm
    · have j0 : ¬ j = 0 := fun e => z2 (by rw [e]; rfl)
      rw [if_pos z3] at he
      exact hk j he.symm j0
    · rw [if_neg z3, if_neg (by omega)] at he
      exact h0 he.symm
    · have c : ¬ uN y = 0 := fun e => z (by rw [e])
      rw [if_neg c] at he
      refine e_inC (fun w => ⟨fun z2 => absurd z2 (by decide), fun _ => ?_⟩) (fun w => ⟨fun _ => ?_, fun z2 => absurd rfl z2⟩)
      · rw [if_pos (hI.mp w)] at he
        intro y1 e1
        rw [e1, nI_1]
        refine ih (j + 1) nf _ (by omega) (by omega) ?_ (by rw [uN_sh8]; exact he)
        rw [uN_sh8]
        exact Nat.div_lt_of_lt_mul (by rw [Nat.pow_succ, Nat.mul_comm] at hy; exact hy)
      · rw [if_neg (fun z2 => w (hI.mpr z2))] at he
        intro y1 e1
        rw [e1, nI_1]
        exact e_put_no (h0 he.symm) f (j + 1) nf _ (by omega) (by omega)
theorem e_put_w {x : Int64} {a : Nat} (ha : a ≤ 8) (hna : n + a ≤ 80) (hk : ∀ r, MM r v u L sl S (n + a) (putP n a (uN x) pd) → k (nI (n + a)) r) : ∀ (r i nf : Nat) (m : qS), i + r = a → r < nf → MM m v u L sl S n pd → (∀ j, j < n + i → m 7 j = putP n a (uN x) pd j) → wX10_put_b108 k nf m x (nI a) (nI i) := by
  intro r
  induction r with
  | zero =>
    intro i nf m hi hn h h1
    obtain ⟨nf, rfl⟩ : ∃ z, nf = z + 1 := ⟨nf - 1, by omega⟩
    obtain rfl : i = a := by omega
    unfold wX10_put_b108
    refine pk_le i i (fun _ => ?_) (fun c => by omega) rfl rfl (by omega) (by omega)
    intro y2 e2 q3 e3
    obtain ⟨a1, a2, a3, a4, a5, a6, a7, a8, a9⟩ := h
    rw [a7, nI_add] at e2
    rw [e2] at e3
    have e38 : q3 0 8 = nI (n + i) := by rw [e3, up2_A, upA_s, upd_s]
    rw [e38]
    refine hk q3 ⟨?_, ?_, a3, ?_, ?_, ?_, e38, hna, ?_⟩
    · rw [e3, up2_A, upA_n (by decide)]; exact a1
    · rw [e3, up2_A, upA_s, upd_n (by decide)]; exact a2
    · rw [e3, up2_A, upA_n (by decide)]; exact a4
    · rw [e3, up2_A, upA_n (by decide)]; exact a5
    · rw [e3, up2_A, upA_n (by decide)]; exact a6
    · rw [e3, up2_A, upA_n (by decide)]; exact h1
  | succ r ih =>
    intro i nf m hi hn h h1
    obtain ⟨nf, rfl⟩ : ∃ z, nf = z + 1 := ⟨nf - 1, by omega⟩
    unfold wX10_put_b108
    refine pk_le a i (fun c => by omega) (fun _ => ?_) rfl rfl (by omega) (by omega)
    intro y4 e4
    have ea : (nI a - (1 : Int32)) - nI i = nI r := by
      rw [show (1 : Int32) = nI 1 from rfl, pk_sub (by omega), pk_sub (by omega)]
      exact congrArg nI (by omega)
    rw [ea, shiftC x r (by omega)] at e4
    obtain ⟨a1, a2, a3, a4, a5, a6, a7, a8, a9⟩ := h
    rw [a7, nI_add, nI_clamp (by omega)]
    refine ⟨vp_in_nI (by omega) (by omega), fun q5 e5 y6 e6 => ?_⟩
    rw [e4] at e5
    rw [e6, nI_1]
    have e7 : ∀ j, j < n + (i + 1) → q5 7 j = putP n a (uN x) pd j := fun j hj => by
      rw [e5, up2_A, upA_s]
      by_cases c : j = n + i
      · rw [c, upd_s]; unfold putP; rw [if_neg (by omega)]
        exact congrArg (fun z => nI (byN (uN x) z)) (by omega)
      · rw [upd_n c]; exact h1 j (by omega)
    refine ih (i + 1) nf q5 (by omega) (by omega) ⟨?_, ?_, a3, ?_, ?_, ?_, ?_, a8, fun j hj => ?_⟩ e7
    · rw [e5, up2_A, upA_n (by decide)]; exact a1
    · rw [e5, up2_A, upA_n (by decide)]; exact a2
    · rw [e5, up2_A, upA_n (by decide)]; exact a4
    · rw [e5, up2_A, upA_n (by decide)]; exact a5
    · rw [e5, up2_A, upA_n (by decide)]; exact a6
    · rw [e5, up2_A, upA_n (by decide)]; exact a7
    · rw [e7 j (by omega)]; unfold putP; rw [if_pos hj]
theorem e_put {x : Int64} (h : MM m v u L sl S n pd) (h0 : chN 8 (uN x) 0 = 0 → ∀ r, MM r v u L sl S n pd → k (-2) r) (h4 : chN 8 (uN x) 0 ≠ 0 → 80 < n + chN 8 (uN x) 0 → ∀ r, MM r v u L sl S n pd → k (-4) r)
    (hk : ∀ a, chN 8 (uN x) 0 = a → a ≠ 0 → n + a ≤ 80 → ∀ r, MM r v u L sl S (n + a) (putP n a (uN x) pd) → k (nI (n + a)) r) : wX10_put k m x := by
  unfold wX10_put
  intro q9 e9
  have h9 : MM q9 v u L sl S n pd := by rw [e9]; exact h.th 0
  refine ⟨9, e_put_l (fun c => h0 c q9 h9) (fun a ea a0 => ?_) 8 0 9 x (by omega) (by omega) (by have := uN_lt x; omega) rfl⟩
  obtain ⟨-, a8, -⟩ := chN_ok 8 (uN x) 0 a ea a0
  have n80 := h9.2.2.2.2.2.2.2.1
  rw [h9.2.2.2.2.2.2.1, nI_add]
  refine pk_le (n + a) 80 (fun c => ⟨9, ?_⟩) (fun c => h4 (by omega) (by omega) q9 h9) rfl rfl (by omega) (by omega)
  exact e_put_w (by omega) c (fun r hr => hk a ea a0 c r hr) a 0 9 q9 (by omega) (by omega) h9 (fun j hj => by unfold putP; rw [if_pos (by omega)]; exact h9.2.2.2.2.2.2.2.2 j (by omega))
end PM
theorem j_put {q o d tq : qS} {zs : Nat → qS} {m : qS} {x : Int64} (h : JJ q o d zs m) : wX9_put (fun r q o d tq zs => wX10_put (fun r2 m => r = r2 ∧ JJ q o d zs m) m x) q o d tq zs x := by
  obtain ⟨v, u, L, sl, S, n, pd, hX, hM⟩ := h
  exact c_Xput hX (fun z => e_put hM (fun _ r hr => ⟨rfl, v, u, L, sl, S, n, pd, hX, hr⟩) (fun z2 => absurd z z2) (fun a ea a0 => absurd (z.symm.trans ea).symm a0))
    (fun z z4 => e_put hM (fun z2 => absurd z2 z) (fun _ _ r hr => ⟨rfl, v, u, L, sl, S, n, pd, hX, hr⟩) (fun a ea a0 c => by omega))
    (fun a ea a0 c d2 hX2 => e_put hM (fun z2 => absurd (ea.symm.trans z2) a0) (fun _ z2 => by omega) (fun a2 ea2 _ _ r hr => by
      obtain rfl : a2 = a := by omega
      exact ⟨rfl, v, u, L, sl, S, _, _, hX2, hr⟩))
