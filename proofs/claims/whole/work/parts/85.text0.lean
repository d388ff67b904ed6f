/-! ===== texts: what is read, over codes cc of characters ===== -/
/-- the code at a place, 0 behind the end -/
def ccF (n : Nat) (pd : Nat → Int32) (p : Nat) : Nat := if p < n then nn (pd p) else 0
/-- the digits behind the first of a number -/
def numN (cc : Nat → Nat) : Nat → Nat → Nat → Nat × Nat
  | 0, p, a => (p, a)
  | d + 1, p, a => if 1 ≤ a ∧ 48 ≤ cc p ∧ cc p ≤ 57 then numN cc d (p + 1) (10 * a + cc p - 48) else (p, a)
/-- a shape (110 a number, 49 a digit, else the sign) from the place p on: whether it's all there, the place behind or the fault's, the numbers -/
def rdS (cc : Nat → Nat) : List Nat → Nat → List Nat → Bool × Nat × List Nat
  | [], p, xs => (true, p, xs)
  | c :: cs, p, xs =>
    if c = 110 then (if 48 ≤ cc p ∧ cc p ≤ 57 then rdS cc cs (numN cc 3 (p + 1) (cc p - 48)).1 (xs ++ [(numN cc 3 (p + 1) (cc p - 48)).2]) else (false, p, xs))
    else if c = 49 then (if 49 ≤ cc p ∧ cc p ≤ 57 then rdS cc cs (p + 1) (xs ++ [cc p - 48]) else (false, p, xs))
    else if cc p = c then rdS cc cs (p + 1) xs else (false, p, xs)
theorem rdS_c {cc : Nat → Nat} {c p : Nat} {cs xs : List Nat} : rdS cc (c :: cs) p xs = if c = 110 then (if 48 ≤ cc p ∧ cc p ≤ 57 then rdS cc cs (numN cc 3 (p + 1) (cc p - 48)).1 (xs ++ [(numN cc 3 (p + 1) (cc p - 48)).2]) else (false, p, xs)) else if c = 49 then (if 49 ≤ cc p ∧ cc p ≤ 57 then rdS cc cs (p + 1) (xs ++ [cc p - 48]) else (false, p, xs)) else if cc p = c then rdS cc cs (p + 1) xs else (false, p, xs) := rfl
theorem getD_sl {xs : List Nat} {x t : Nat} (h : t < xs.length) : (xs ++ [x]).getD t 0 = xs.getD t 0 := by
  rw [List.getD_eq_getElem?_getD, List.getD_eq_getElem?_getD, List.getElem?_append_left h]
theorem getD_sr {xs : List Nat} {x : Nat} : (xs ++ [x]).getD xs.length 0 = x := by
  rw [List.getD_eq_getElem?_getD, List.getElem?_append_right (Nat.le_refl _), Nat.sub_self]; rfl
/-- an order's number by its letter, 6 if there is none -/
def ordN (c : Nat) : Nat := if c = 102 then 0 else if c = 99 then 1 else if c = 103 then 2 else if c = 100 then 3 else if c = 109 then 4 else if c = 120 then 5 else 6
def shpN (i : Nat) : List Nat := if i = 0 then [110, 42, 49, 43, 110] else if i = 1 then [110, 58, 110, 45, 110, 47, 110, 45, 110, 36, 110] else if i = 2 then [49] else if i = 4 then [] else [110]
/-- an order from the place p on -/
def rdO (cc : Nat → Nat) (p : Nat) : Bool × Nat × List Nat := if ordN (cc p) = 6 then (false, p, []) else rdS cc (shpN (ordN (cc p))) (p + 1) []
theorem numN_ge {cc : Nat → Nat} : ∀ (d p a : Nat), p ≤ (numN cc d p a).1
  | 0, p, a => Nat.le_refl p
  | d + 1, p, a => by
    unfold numN
    split
    · exact Nat.le_trans (Nat.le_succ p) (numN_ge d (p + 1) _)
    · exact Nat.le_refl p
theorem rdS_ge {cc : Nat → Nat} : ∀ (cs : List Nat) (p : Nat) (xs : List Nat), p ≤ (rdS cc cs p xs).2.1
  | [], p, xs => Nat.le_refl p
  | c :: cs, p, xs => by
    unfold rdS
    split
    · split
      · exact Nat.le_trans (Nat.le_trans (Nat.le_succ p) (numN_ge 3 (p + 1) _)) (rdS_ge cs _ _)
      · exact Nat.le_refl p
    · split
      · split
        · exact Nat.le_trans (Nat.le_succ p) (rdS_ge cs (p + 1) _)
        · exact Nat.le_refl p
      · split
        · exact Nat.le_trans (Nat.le_succ p) (rdS_ge cs (p + 1) _)
        · exact Nat.le_refl p
theorem numN_le {cc : Nat → Nat} {n : Nat} (h0 : ∀ p, n ≤ p → cc p = 0) : ∀ (d p a : Nat), p ≤ n → (numN cc d p a).1 ≤ n
  | 0, p, a, h => h
  | d + 1, p, a, h => by
    unfold numN
    split
    · rename_i c
      have : p < n := by
        rcases Nat.lt_or_ge p n with z | z
        · exact z
        · have := h0 p z; omega
      exact numN_le h0 d (p + 1) _ this
    · exact h
theorem rdS_le {cc : Nat → Nat} {n : Nat} (h0 : ∀ p, n ≤ p → cc p = 0) : ∀ (cs : List Nat) (p : Nat) (xs : List Nat), (∀ c ∈ cs, c ≠ 0) → p ≤ n → (rdS cc cs p xs).2.1 ≤ n
  | [], p, xs, _, h => h
  | c :: cs, p, xs, hc, h => by
    have hcs : ∀ z ∈ cs, z ≠ 0 := fun z hz => hc z (List.mem_cons_of_mem _ hz)
    have hc0 : c ≠ 0 := hc c List.mem_cons_self
    have hlt : cc p ≠ 0 → p < n := fun z => by
      rcases Nat.lt_or_ge p n with y | y
      · exact y
      · exact absurd (h0 p y) z
    unfold rdS
    split
    · split
      · rename_i c2
        exact rdS_le h0 cs _ _ hcs (numN_le h0 3 (p + 1) _ (hlt (by omega)))
      · exact h
    · split
      · split
        · exact rdS_le h0 cs _ _ hcs (hlt (by omega))
        · exact h
      · split
        · rename_i c2
          exact rdS_le h0 cs _ _ hcs (hlt (by omega))
        · exact h
theorem shp_ne : ∀ i, i < 6 → ∀ c ∈ shpN i, c ≠ 0 := by decide
theorem ordN_le (c : Nat) : ordN c ≤ 6 := by
  unfold ordN; repeat' split
  all_goals omega
theorem rdO_le {cc : Nat → Nat} {n p : Nat} (h0 : ∀ p, n ≤ p → cc p = 0) (h : p ≤ n) : (rdO cc p).2.1 ≤ n := by
  unfold rdO
  by_cases c : ordN (cc p) = 6
  · rw [if_pos c]; exact h
  · rw [if_neg c]
    have hp : p < n := by
      rcases Nat.lt_or_ge p n with y | y
      · exact y
      · rw [h0 p y] at c; exact absurd (by decide) c
    exact rdS_le h0 _ _ _ (shp_ne _ (by have := ordN_le (cc p); omega)) hp
theorem rdO_gt {cc : Nat → Nat} {p : Nat} (h : (rdO cc p).1 = true) : p < (rdO cc p).2.1 := by
  unfold rdO at h ⊢
  by_cases c : ordN (cc p) = 6
  · rw [if_pos c] at h; cases h
  · rw [if_neg c]; exact rdS_ge _ _ _
/-! ===== the class's reader ===== -/
theorem ch_ok : ∀ c : Nat, c < 128 → narrow .char (.int (nI c)) = .int (nI c) := by decide +kernel
theorem cc_lt {d : qS} {n : Nat} {pd : Nat → Int32} (h : XD d n pd) (p : Nat) : ccF n pd p < 127 := by
  unfold ccF
  by_cases c : p < n
  · rw [if_pos c]
    obtain ⟨z, z1, z2, z3⟩ := (h.2.2 p c).2
    rw [z3]; unfold nn; rw [nI_clamp (by omega)]; omega
  · rw [if_neg c]; omega
theorem cc_0 {n : Nat} {pd : Nat → Int32} (p : Nat) (h : n ≤ p) : ccF n pd p = 0 := by unfold ccF; rw [if_neg (by omega)]
theorem cc_eq {d : qS} {n : Nat} {pd : Nat → Int32} (h : XD d n pd) {p : Nat} (hp : p < n) : d 1 p = nI (ccF n pd p) := by
  unfold ccF
  rw [if_pos hp]
  obtain ⟨e, z, z1, z2, z3⟩ := h.2.2 p hp
  rw [e, z3]; unfold nn; rw [nI_clamp (by omega)]
/-- the reader at the place p, within an order of the number i, with the numbers xs -/
def CR (d : qS) (n : Nat) (pd : Nat → Int32) (p i : Nat) (xs : List Nat) : Prop := XD d n pd ∧ d 0 1 = nI p ∧ p ≤ n ∧ d 0 2 = nI i ∧ d 0 3 = nI xs.length ∧ xs.length ≤ 6 ∧ ∀ t, t < xs.length → d 2 t = nI (xs.getD t 0)
theorem XD.up {d : qS} {n : Nat} {pd : Nat → Int32} {a k : Nat} {x : Int32} (h : XD d n pd) (ha : a ≠ 1) (hk : ¬ (a = 0 ∧ k = 0)) : XD (up2 d a k x) n pd := by
  obtain ⟨h1, h2, h3⟩ := h
  refine ⟨?_, h2, fun j hj => ?_⟩
  · by_cases c : a = 0
    · subst c; rw [up2_A, upA_s, upd_n (by omega)]; exact h1
    · rw [up2_A, upA_n (by omega)]; exact h1
  · rw [up2_A, upA_n (by omega)]; exact h3 j hj
section TC
variable {d : qS} {n : Nat} {pd : Nat → Int32} {k : Int32 → qS → Prop}
theorem c_sign {p : Nat} (h : XD d n pd) (hp : d 0 1 = nI p) (hpn : p ≤ n) (hk : k (nI (ccF n pd p)) d) : wX5_sign k d := by
  have n80 := h.2.1
  unfold wX5_sign wX5_sign_b39 wX5_sign_b40
  rw [hp, h.1]
  refine ⟨fun c => absurd c (nI_pos (by omega)), fun _ => ?_⟩
  have hlt := cc_lt h p
  refine pk_le n p (fun c => ?_) (fun c => ?_) rfl rfl (by omega) (by omega)
  · rw [cc_0 p c] at hk
    exact ⟨by decide, hk⟩
  · refine ⟨fun c2 => ?_, fun _ => ⟨vp_in_nI (by omega) (by omega), ?_⟩⟩
    · exact absurd ((nI_leI (a := 80) (b := p) (by omega) (by omega)).mp c2) (by omega)
    · rw [nI_clamp (by omega), cc_eq h c]
      exact ⟨ch_ok _ (by omega), hk⟩
theorem c_keep {k : qS → Prop} {p i : Nat} {xs : List Nat} {x : Nat} (h : CR d n pd p i xs) (hl : xs.length < 6) (hk : ∀ r, CR r n pd p i (xs ++ [x]) → k r) : wX5_keepNumber k d (nI x) := by
  obtain ⟨hD, h1, hpn, h2, h3, h4, h5⟩ := h
  unfold wX5_keepNumber wX5_keepNumber_b36
  rw [h3]
  refine ⟨fun c => absurd c (nI_pos (by omega)), fun _ => ⟨fun c => absurd ((nI_leI (a := 6) (b := xs.length) (by omega) (by omega)).mp c) (by omega), fun _ => ⟨vp_in_nI (by omega) (by omega), fun d1 e1 y2 e2 d3 e3 => ?_⟩⟩⟩
  rw [nI_clamp (by omega)] at e1
  have e13 : d1 0 3 = nI xs.length := by rw [e1, up2_A, upA_n (by decide)]; exact h3
  rw [e13, nI_1] at e2
  have hD1 : XD d1 n pd := by rw [e1]; exact hD.up (by decide) (by omega)
  have hD3 : XD d3 n pd := by rw [e3]; exact hD1.up (by decide) (by omega)
  have g0 : ∀ j, j ≠ 3 → d3 0 j = d 0 j := fun j hj => by rw [e3, up2_A, upA_s, upd_n hj, e1, up2_A, upA_n (by decide)]
  refine hk d3 ⟨hD3, by rw [g0 1 (by decide)]; exact h1, hpn, by rw [g0 2 (by decide)]; exact h2, ?_, by rw [List.length_append]; show xs.length + 1 ≤ 6; omega, fun t ht => ?_⟩
  · rw [e3, up2_A, upA_s, upd_s, e2, List.length_append]; rfl
  · rw [List.length_append] at ht
    have ht : t < xs.length + 1 := ht
    rw [e3, up2_A, upA_n (by decide), e1, up2_A, upA_s]
    by_cases c : t = xs.length
    · subst c
      rw [upd_s, getD_sr]
    · rw [upd_n c, getD_sl (by omega)]; exact h5 t (by omega)
theorem CR.step {p i : Nat} {xs : List Nat} (h : CR d n pd p i xs) (hp : p < n) : CR (up2 d 0 1 (nI (p + 1))) n pd (p + 1) i xs := by
  obtain ⟨hD, h1, hpn, h2, h3, h4, h5⟩ := h
  refine ⟨hD.up (by decide) (by omega), ?_, hp, ?_, ?_, h4, fun t ht => ?_⟩
  · rw [up2_A, upA_s, upd_s]
  · rw [up2_A, upA_s, upd_n (by decide)]; exact h2
  · rw [up2_A, upA_s, upd_n (by decide)]; exact h3
  · rw [up2_A, upA_n (by decide)]; exact h5 t ht
theorem cc_in {p : Nat} (h : ccF n pd p ≠ 0) : p < n := by
  rcases Nat.lt_or_ge p n with z | z
  · exact z
  · exact absurd (cc_0 p z) h
/-- the values that a number may have with dd digits to come at most -/
def numJ (dd a : Nat) : Prop := a = 0 ∨ (dd = 3 ∧ 1 ≤ a ∧ a < 10) ∨ (dd = 2 ∧ 10 ≤ a ∧ a < 100) ∨ (dd = 1 ∧ 100 ≤ a ∧ a < 1000) ∨ (dd = 0 ∧ 1000 ≤ a ∧ a < 10000)
theorem sub48 {c : Nat} (h : 48 ≤ c) : nI c - (48 : Int32) = nI (c - 48) := by rw [show (48 : Int32) = nI 48 from rfl, pk_sub h]
theorem c_num_l {i : Nat} {xs : List Nat} (hl : xs.length < 6) : ∀ (dd p a nf : Nat) (d : qS), numJ dd a → dd < nf → CR d n pd p i xs → (∀ r, CR r n pd (numN (ccF n pd) dd p a).1 i (xs ++ [(numN (ccF n pd) dd p a).2]) → k 1 r) → wX5_readNumber_b34 k nf d (nI a) := by
  intro dd
  induction dd with
  | zero =>
    intro p a nf d hJ hn h hk
    obtain ⟨nf, rfl⟩ : ∃ m, nf = m + 1 := ⟨nf - 1, by omega⟩
    unfold numJ at hJ
    have fin : wX5_readNumber_b96 k d (nI a) := by
      unfold wX5_readNumber_b96
      exact c_keep h hl (fun r hr => hk r hr)
    unfold wX5_readNumber_b34
    refine ⟨fun _ => fin, fun _ => c_in (fun z => ?_) (fun _ => ⟨fun _ => fin, fun z => absurd rfl z⟩)⟩
    have := (isIn_b (b := a) (l := 1) (u := 999) (by omega) (by omega) (by omega)).mp z
    omega
  | succ dd ih =>
    intro p a nf d hJ hn h hk
    obtain ⟨nf, rfl⟩ : ∃ m, nf = m + 1 := ⟨nf - 1, by omega⟩
    have ha : a < 1000 := by unfold numJ at hJ; omega
    unfold numN at hk
    have fin : ¬ (1 ≤ a ∧ 48 ≤ ccF n pd p ∧ ccF n pd p ≤ 57) → wX5_readNumber_b96 k d (nI a) := by
      intro c
      rw [if_neg c] at hk
      unfold wX5_readNumber_b96
      exact c_keep h hl (fun r hr => hk r hr)
    obtain ⟨hD, h1, hpn, -⟩ := id h
    have n80 := hD.2.1
    have hlt := cc_lt hD p
    unfold wX5_readNumber_b34
    rw [hD.1, h1]
    refine pk_le n p (fun c => fin (by rw [cc_0 p c]; omega)) (fun hp => ?_) rfl rfl (by omega) (by omega)
    have hb := isIn_b (b := a) (l := 1) (u := 999) (by omega) (by omega) (by omega)
    refine c_in (fun z => ⟨fun z2 => absurd z2 (by decide), fun _ => ?_⟩) (fun z => ⟨fun _ => fin (fun y => z (hb.mpr (by omega))), fun z2 => absurd rfl z2⟩)
    refine c_sign hD h1 hpn ?_
    have hb2 := isIn_b (b := ccF n pd p) (l := 48) (u := 57) (by omega) (by omega) (by omega)
    refine c_in (fun z3 => ⟨fun z2 => absurd z2 (by decide), fun _ => ?_⟩) (fun z3 => ⟨fun _ => fin (fun y => z3 (hb2.mpr (by omega))), fun z2 => absurd rfl z2⟩)
    refine c_sign hD h1 hpn ?_
    have hd := hb2.mp z3
    have h1a := hb.mp z
    intro y9 e9 y10 e10 d11 e11
    rw [h1, nI_1] at e10
    rw [e10] at e11
    have e : nI a * (10 : Int32) + nI (ccF n pd p) - (48 : Int32) = nI (10 * a + ccF n pd p - 48) := by
      rw [show (10 : Int32) = nI 10 from rfl, pk_mul, nI_add, Nat.mul_comm, sub48 (by omega)]
    rw [e9, e]
    rw [if_pos (by omega)] at hk
    refine ih (p + 1) _ nf d11 ?_ (by omega) (by rw [e11]; exact h.step hp) hk
    unfold numJ at hJ ⊢
    omega
theorem c_number {p i : Nat} {xs : List Nat} (h : CR d n pd p i xs) (hl : xs.length < 6) (hno : ¬ (48 ≤ ccF n pd p ∧ ccF n pd p ≤ 57) → k 0 d)
    (hk : 48 ≤ ccF n pd p ∧ ccF n pd p ≤ 57 → ∀ r, CR r n pd (numN (ccF n pd) 3 (p + 1) (ccF n pd p - 48)).1 i (xs ++ [(numN (ccF n pd) 3 (p + 1) (ccF n pd p - 48)).2]) → k 1 r) : wX5_readNumber k d := by
  obtain ⟨hD, h1, hpn, -⟩ := id h
  have hlt := cc_lt hD p
  unfold wX5_readNumber
  refine c_sign hD h1 hpn ?_
  have hb2 := isIn_b (b := ccF n pd p) (l := 48) (u := 57) (by omega) (by omega) (by omega)
  refine c_in (fun z => ⟨fun _ => ?_, fun z2 => absurd z2 (by decide)⟩) (fun z => ⟨fun z2 => absurd rfl z2, fun _ => hno (fun y => z (hb2.mpr y))⟩)
  refine c_sign hD h1 hpn ?_
  have hd := hb2.mp z
  intro y17 e17 y18 e18 d19 e19
  rw [h1, nI_1] at e18
  rw [e18] at e19
  rw [e17, sub48 hd.1]
  exact ⟨4, c_num_l hl 3 (p + 1) _ 4 d19 (by unfold numJ; omega) (by omega) (by rw [e19]; exact h.step (cc_in (pd := pd) (by omega))) (hk hd)⟩
theorem c_digit {p i : Nat} {xs : List Nat} (h : CR d n pd p i xs) (hl : xs.length < 6) (hno : ¬ (49 ≤ ccF n pd p ∧ ccF n pd p ≤ 57) → k 0 d)
    (hk : 49 ≤ ccF n pd p ∧ ccF n pd p ≤ 57 → ∀ r, CR r n pd (p + 1) i (xs ++ [ccF n pd p - 48]) → k 1 r) : wX5_readDigit k d := by
  obtain ⟨hD, h1, hpn, -⟩ := id h
  have hlt := cc_lt hD p
  unfold wX5_readDigit
  refine c_sign hD h1 hpn ?_
  have hb2 := isIn_b (b := ccF n pd p) (l := 49) (u := 57) (by omega) (by omega) (by omega)
  refine c_in (fun z => ⟨fun _ => ?_, fun z2 => absurd z2 (by decide)⟩) (fun z => ⟨fun z2 => absurd rfl z2, fun _ => hno (fun y => z (hb2.mpr y))⟩)
  refine c_sign hD h1 hpn ?_
  have hd := hb2.mp z
  rw [sub48 (by omega)]
  refine c_keep h hl (fun r hr => ?_)
  intro y8 e8 d9 e9
  rw [hr.2.1, nI_1] at e8
  rw [e8] at e9
  exact hk hd d9 (by rw [e9]; exact hr.step (cc_in (pd := pd) (by omega)))
theorem c_readSign {p i c : Nat} {xs : List Nat} (h : CR d n pd p i xs) (hc0 : c ≠ 0) (hc : c < 128) (hno : ccF n pd p ≠ c → k 0 d) (hk : ccF n pd p = c → ∀ r, CR r n pd (p + 1) i xs → k 1 r) : wX5_readSign k d (nI c) := by
  obtain ⟨hD, h1, hpn, -⟩ := id h
  have hlt := cc_lt hD p
  unfold wX5_readSign
  refine c_sign hD h1 hpn ?_
  refine ⟨fun z => ?_, fun z => hno (fun y => z (by rw [y]))⟩
  have e := (nI_eq (by omega) (by omega)).mp z
  intro y3 e3 d4 e4
  rw [h1, nI_1] at e3
  rw [e3] at e4
  exact hk e d4 (by rw [e4]; exact h.step (cc_in (pd := pd) (by omega)))
theorem nar01 : narrow .boolean (.int (0 : Int32)) = .int 0 ∧ narrow .boolean (.int (1 : Int32)) = .int 1 := by decide
/-- one part of a shape, and what comes behind it -/
theorem c_part {p i c : Nat} {cs xs : List Nat} (h : CR d n pd p i xs) (hl : xs.length < 6) (hc0 : c ≠ 0) (hc : c < 128)
    (hno : ∀ r q ys, rdS (ccF n pd) (c :: cs) p xs = (false, q, ys) → CR r n pd q i ys → k 0 r)
    (hk : ∀ r q ys, rdS (ccF n pd) (c :: cs) p xs = rdS (ccF n pd) cs q ys → ys.length ≤ xs.length + 1 → CR r n pd q i ys → k 1 r) : wX5_readPart k d (nI c) := by
  unfold wX5_readPart
  have e110 : nI c = (110 : Int32) ↔ c = 110 := nI_eq (a := c) (b := 110) (by omega) (by omega)
  have e49 : nI c = (49 : Int32) ↔ c = 49 := nI_eq (a := c) (b := 49) (by omega) (by omega)
  rw [e110, e49]
  rw [rdS_c] at hno hk
  refine ⟨fun z => ⟨fun z2 => ?_, fun z2 => ?_⟩, fun z => ?_⟩
  · rw [if_neg z, if_neg z2] at hno hk
    refine c_readSign h hc0 hc (fun y => ⟨nar01.1, ?_⟩) (fun y r hr => ⟨nar01.2, ?_⟩)
    · rw [if_neg y] at hno; exact hno d p xs rfl h
    · rw [if_pos y] at hk; exact hk r _ _ rfl (by omega) hr
  · rw [if_neg z, if_pos z2] at hno hk
    refine c_digit h hl (fun y => ⟨nar01.1, ?_⟩) (fun y r hr => ⟨nar01.2, ?_⟩)
    · rw [if_neg y] at hno; exact hno d p xs rfl h
    · rw [if_pos y] at hk; exact hk r _ _ rfl (by rw [List.length_append]; exact Nat.le_refl _) hr
  · rw [if_pos z] at hno hk
    refine c_number h hl (fun y => ⟨nar01.1, ?_⟩) (fun y r hr => ⟨nar01.2, ?_⟩)
    · rw [if_neg y] at hno; exact hno d p xs rfl h
    · rw [if_pos y] at hk; exact hk r _ _ rfl (by rw [List.length_append]; exact Nat.le_refl _) hr
/-! the JDK's text methods over the kept constants -/
theorem c_latin {k : Int32 → Prop} {i : Nat} (hi : i < 6) (h : k 1) : wJ0_isLatin1_aae02 k i := by
  unfold wJ0_isLatin1_aae02 wJ0_isLatin1_aae02_b17 wJ0_isLatin1_aae02_b18
  exact ⟨fun c => absurd c (by decide), fun _ => ⟨hi, fun c => absurd rfl c, fun _ => ⟨by decide, h⟩⟩⟩
theorem qtl_lt : ∀ i, i < 6 → qtl.getD i 0 < 12 ∧ nI (qtl.getD i 0) >>> ((0 : Int32) &&& 31) = nI (qtl.getD i 0) := by decide
theorem c_len {k : Int32 → Prop} {i : Nat} (hi : i < 6) (h : k (nI (qtl.getD i 0))) : wJ0_length_8abf5 k i := by
  unfold wJ0_length_8abf5 wJ0_coder_7d493 wJ0_coder_7d493_b14
  refine ⟨hi, hi, hi, fun c => absurd c (by decide), fun _ => ⟨hi, by decide, ?_⟩⟩
  show k (nI (qtl.getD i 0) >>> ((0 : Int32) &&& 31))
  rw [(qtl_lt i hi).2]; exact h
theorem qtx_ok : ∀ i, i < 6 → ∀ j, j < qtl.getD i 0 → ((((qtx.getD i []).getD j 0) &&& (255 : Int32)).toUInt32 % 65536).toInt32 = (qtx.getD i []).getD j 0 ∧ narrow .char (.int ((qtx.getD i []).getD j 0)) = .int ((qtx.getD i []).getD j 0) := by decide +kernel
theorem c_charAt {k : Int32 → Prop} {i j : Nat} (hi : i < 6) (hj : j < qtl.getD i 0) (h : k ((qtx.getD i []).getD j 0)) : wJ0_charAt_5068e k i (nI j) := by
  have hl := (qtl_lt i hi).1
  unfold wJ0_charAt_5068e
  refine ⟨hi, c_latin hi ⟨fun c => absurd c (by decide), fun _ => ⟨hi, ?_⟩⟩⟩
  unfold wJ1_charAt_3b067 wJ0_checkIndex_df160 wJ3_checkIndex_8e157
  refine ⟨hi, fun c => absurd c (nI_pos (by omega)), fun _ => ⟨fun _ => ⟨hi, vp_in_nI hj (by omega), ?_⟩, fun c => absurd (nI_lt hj (by omega)) c⟩⟩
  rw [nI_clamp (by omega), (qtx_ok i hi j hj).1]
  exact ⟨(qtx_ok i hi j hj).2, (qtx_ok i hi j hj).2, h⟩
/-- the place of a letter among the orders' letters -/
theorem ix_b : ∀ c : Nat, c < 127 → (nI c).toInt8.toInt32 = nI c := by decide +kernel
def ixR (c : Nat) : Int32 := if ordN c = 6 then -1 else nI (ordN c)
theorem ixL : ∀ c : Nat, c < 127 → ∀ j, j < 6 → ((qtx.getD 0 []).getD j 0 = nI c ↔ ordN c = j) := by decide +kernel
theorem c_ix_l {k : Int32 → Prop} {c : Nat} (hc : c < 127) (h : k (ixR c)) : ∀ (dd j nf : Nat), j + dd = 6 → dd < nf → (∀ t, t < j → ordN c ≠ t) → wJ1_indexOfChar_4cfef_b7 k nf 0 (6 : Int32) (nI c) (nI j) := by
  intro dd
  induction dd with
  | zero =>
    intro j nf hj hn ht
    obtain ⟨nf, rfl⟩ : ∃ m, nf = m + 1 := ⟨nf - 1, by omega⟩
    obtain rfl : j = 6 := by omega
    unfold wJ1_indexOfChar_4cfef_b7
    refine ⟨fun _ => ?_, fun z => absurd (by decide : (6 : Int32) ≤ nI 6) z⟩
    unfold ixR at h
    have h6 : ordN c = 6 := by
      have := ordN_le c
      rcases Nat.lt_or_ge (ordN c) 6 with z | z
      · exact absurd rfl (ht _ z)
      · omega
    rw [if_pos h6] at h; exact h
  | succ dd ih =>
    intro j nf hj hn ht
    obtain ⟨nf, rfl⟩ : ∃ m, nf = m + 1 := ⟨nf - 1, by omega⟩
    unfold wJ1_indexOfChar_4cfef_b7
    refine ⟨fun z => absurd ((nI_leI (a := 6) (b := j) (by omega) (by omega)).mp z) (by omega), fun _ => ⟨by decide, vp_in_nI (N := 6) (by omega) (by omega), ?_⟩⟩
    rw [nI_clamp (by omega), ixL c hc j (by omega)]
    refine ⟨fun z y1 e1 => ?_, fun z => ?_⟩
    · rw [e1, nI_1]
      exact ih (j + 1) nf (by omega) (by omega) (fun t ht2 => by
        by_cases y : t = j
        · rw [y]; exact z
        · exact ht t (by omega))
    · unfold ixR at h
      rw [if_neg (by omega), z] at h; exact h
theorem c_ix {k : Int32 → Prop} {c : Nat} (hc : c < 127) (h : k (ixR c)) : wJ0_indexOf_0f7a4 k 0 (nI c) := by
  unfold wJ0_indexOf_0f7a4 wJ0_indexOf_7cf53
  refine ⟨by decide, by decide, c_latin (by decide) ⟨fun z => absurd z (by decide), fun _ => ⟨by decide, by decide, c_len (by decide) ?_⟩⟩⟩
  unfold wJ1_indexOf_4cfef wJ1_canEncode_9a6ad wJ1_canEncode_9a6ad_b15 wJ1_canEncode_9a6ad_b16
  refine ⟨fun z => absurd z (nI_pos (by omega)), fun _ => ⟨fun z => absurd z (nI_nlt (a := 255) (b := c) (by omega) (by omega)), fun _ => ⟨by decide, fun _ => ?_, fun z => absurd z (by decide)⟩⟩⟩
  intro y2 e2
  refine ⟨by decide, fun y3 e3 => ?_⟩
  have e2 : y2 = 0 := by rw [e2]; decide
  have e3 : y3 = 6 := by rw [e3]; decide
  rw [e2, e3]
  refine ⟨fun _ => ?_, fun z => absurd (by decide) z⟩
  unfold wJ1_indexOfChar_4cfef
  intro y4 e4
  rw [ix_b c hc] at e4
  rw [e4]
  exact ⟨7, c_ix_l hc h 6 0 7 (by omega) (by omega) (fun t ht => by omega)⟩
/-! orders -/
theorem shp_tx : ∀ i, i < 6 → ∀ j, j < (shpN i).length → qtl.getD (if i = 0 then 1 else if i = 1 then 2 else if i = 2 then 3 else if i = 4 then 4 else 5) 0 = (shpN i).length ∧ (qtx.getD (if i = 0 then 1 else if i = 1 then 2 else if i = 2 then 3 else if i = 4 then 4 else 5) []).getD j 0 = nI ((shpN i).getD j 0) ∧ (shpN i).getD j 0 ≠ 0 ∧ (shpN i).getD j 0 < 128 := by decide +kernel
theorem shp_l : ∀ i, i < 6 → qtl.getD (if i = 0 then 1 else if i = 1 then 2 else if i = 2 then 3 else if i = 4 then 4 else 5) 0 = (shpN i).length ∧ (shpN i).length ≤ 11 := by decide
/-- how many numbers the rest of a shape may give -/
def cntN : List Nat → Nat
  | [] => 0
  | c :: cs => (if c = 110 ∨ c = 49 then 1 else 0) + cntN cs
theorem shp_cnt : ∀ i, i < 6 → cntN (shpN i) ≤ 6 := by decide
theorem c_parts {t : Nat} (ht : t < 6) {i : Nat} : ∀ (cs : List Nat) (j p nf : Nat) (xs : List Nat) (d : qS), j + cs.length = qtl.getD t 0 → (∀ z, z < cs.length → (qtx.getD t []).getD (j + z) 0 = nI (cs.getD z 0) ∧ cs.getD z 0 ≠ 0 ∧ cs.getD z 0 < 128) → cs.length < nf → xs.length + cntN cs ≤ 6 → CR d n pd p i xs → (∀ r q ys, rdS (ccF n pd) cs p xs = (false, q, ys) → CR r n pd q i ys → k 0 r) → (∀ r q ys, rdS (ccF n pd) cs p xs = (true, q, ys) → CR r n pd q i ys → k 1 r) → wX5_readOrder_b49 k nf d t 1 (nI j) := by
  intro cs
  have hl := (qtl_lt t ht).1
  induction cs with
  | nil =>
    intro j p nf xs d hj hz hn hx h hno hk
    obtain ⟨nf, rfl⟩ : ∃ m, nf = m + 1 := ⟨nf - 1, by omega⟩
    have hj : j + 0 = qtl.getD t 0 := hj
    unfold wX5_readOrder_b49 wX5_readOrder_b77
    refine ⟨ht, c_len ht ⟨fun _ => ⟨nar01.2, hk d p xs rfl h⟩, fun z => absurd (nI_le (by omega) (by omega)) z⟩⟩
  | cons c cs ih =>
    intro j p nf xs d hj hz hn hx h hno hk
    obtain ⟨nf, rfl⟩ : ∃ m, nf = m + 1 := ⟨nf - 1, by omega⟩
    have hj : j + (cs.length + 1) = qtl.getD t 0 := hj
    have hn : cs.length + 1 < nf + 1 := hn
    have hx : xs.length + ((if c = 110 ∨ c = 49 then 1 else 0) + cntN cs) ≤ 6 := hx
    unfold wX5_readOrder_b49
    refine ⟨ht, c_len ht ⟨fun z => absurd ((nI_leI (by omega) (by omega)).mp z) (by omega), fun _ => ⟨fun z => absurd z (by decide), fun _ => ⟨ht, c_charAt ht (by omega) ?_⟩⟩⟩⟩
    obtain ⟨g1, g2, g3⟩ := hz 0 (Nat.succ_pos _)
    have g1 : (qtx.getD t []).getD j 0 = nI c := g1
    have g2 : c ≠ 0 := g2
    have g3 : c < 128 := g3
    rw [g1]
    have rest : ∀ (r : qS) (q : Nat) (ys : List Nat), rdS (ccF n pd) (c :: cs) p xs = rdS (ccF n pd) cs q ys → ys.length + cntN cs ≤ 6 → CR r n pd q i ys → wX5_readOrder_b49 k nf r t 1 (nI (j + 1)) := by
      intro r q ys he hy hr
      refine ih (j + 1) q nf ys r (by omega) (fun z hz2 => ?_) (by omega) hy hr (fun r2 q2 ys2 he2 hr2 => hno r2 q2 ys2 (he.trans he2) hr2) (fun r2 q2 ys2 he2 hr2 => hk r2 q2 ys2 (he.trans he2) hr2)
      have := hz (z + 1) (Nat.succ_lt_succ hz2)
      rw [show j + 1 + z = j + (z + 1) from by omega]
      exact this
    by_cases cn : c = 110 ∨ c = 49
    · rw [if_pos cn] at hx
      refine c_part (cs := cs) h (by omega) g2 g3 (fun r q ys he hr => ?_) (fun r q ys he hy hr => ?_)
      · intro y5 e5
        rw [e5, nI_1]
        have fin : ∀ nf2, 0 < nf2 → wX5_readOrder_b49 k nf2 r t 0 (nI (j + 1)) := by
          intro nf2 hn2
          obtain ⟨nf2, rfl⟩ : ∃ m, nf2 = m + 1 := ⟨nf2 - 1, by omega⟩
          unfold wX5_readOrder_b49 wX5_readOrder_b77
          exact ⟨ht, c_len ht ⟨fun _ => ⟨nar01.1, hno r q ys he hr⟩, fun _ => ⟨fun _ => ⟨nar01.1, hno r q ys he hr⟩, fun z => absurd rfl z⟩⟩⟩
        exact fin nf (by omega)
      · intro y5 e5
        rw [e5, nI_1]
        exact rest r q ys he (by omega) hr
    · rw [if_neg cn] at hx
      -- a sign: no number comes
      have e110 : ¬ c = 110 := fun z => cn (Or.inl z)
      have e49 : ¬ c = 49 := fun z => cn (Or.inr z)
      unfold wX5_readPart
      refine ⟨fun _ => ⟨fun _ => ?_, fun z => absurd ((nI_eq (a := c) (b := 49) (by omega) (by omega)).mp z) e49⟩, fun z => absurd ((nI_eq (a := c) (b := 110) (by omega) (by omega)).mp z) e110⟩
      refine c_readSign h g2 g3 (fun y => ⟨nar01.1, ?_⟩) (fun y r hr => ⟨nar01.2, ?_⟩)
      · intro y5 e5
        rw [e5, nI_1]
        have he : rdS (ccF n pd) (c :: cs) p xs = (false, p, xs) := by rw [rdS_c, if_neg e110, if_neg e49, if_neg y]
        have fin : ∀ nf2, 0 < nf2 → wX5_readOrder_b49 k nf2 d t 0 (nI (j + 1)) := by
          intro nf2 hn2
          obtain ⟨nf2, rfl⟩ : ∃ m, nf2 = m + 1 := ⟨nf2 - 1, by omega⟩
          unfold wX5_readOrder_b49 wX5_readOrder_b77
          exact ⟨ht, c_len ht ⟨fun _ => ⟨nar01.1, hno d p xs he h⟩, fun _ => ⟨fun _ => ⟨nar01.1, hno d p xs he h⟩, fun z => absurd rfl z⟩⟩⟩
        exact fin nf (by omega)
      · intro y5 e5
        rw [e5, nI_1]
        have he : rdS (ccF n pd) (c :: cs) p xs = rdS (ccF n pd) cs (p + 1) xs := by
          rw [rdS_c, if_neg e110, if_neg e49, if_pos y]
        exact rest r (p + 1) xs he (by omega) hr
/-- an order is read -/
theorem c_order {p : Nat} (hD : XD d n pd) (h1 : d 0 1 = nI p) (hpn : p ≤ n) (hno : ∀ r q ys, rdO (ccF n pd) p = (false, q, ys) → XD r n pd → r 0 1 = nI q → q ≤ n → k 0 r)
    (hk : ∀ r q ys, rdO (ccF n pd) p = (true, q, ys) → CR r n pd q (ordN (ccF n pd p)) ys → k 1 r) : wX5_readOrder k d := by
  have hlt := cc_lt hD p
  unfold wX5_readOrder
  refine c_sign hD h1 hpn ⟨by decide, c_ix hlt ?_⟩
  intro d9 e9 d10 e10
  have n80 := hD.2.1
  have hD9 : XD d9 n pd := by rw [e9]; exact hD.up (by decide) (by omega)
  have hD10 : XD d10 n pd := by rw [e10]; exact hD9.up (by decide) (by omega)
  have e102 : d10 0 2 = ixR (ccF n pd p) := by rw [e10, up2_A, upA_s, upd_n (by decide), e9, up2_A, upA_s, upd_s]
  have e101 : d10 0 1 = nI p := by rw [e10, up2_A, upA_s, upd_n (by decide), e9, up2_A, upA_s, upd_n (by decide)]; exact h1
  have e103 : d10 0 3 = 0 := by rw [e10, up2_A, upA_s, upd_s]
  unfold rdO at hno hk
  rw [e102]
  unfold ixR
  by_cases c6 : ordN (ccF n pd p) = 6
  · rw [if_pos c6] at hno ⊢
    exact ⟨fun z => absurd z (by decide), fun _ => hno d10 p [] rfl hD10 e101 hpn⟩
  · rw [if_neg c6] at hno hk ⊢
    have h6 : ordN (ccF n pd p) < 6 := by have := ordN_le (ccF n pd p); omega
    refine ⟨fun _ => ?_, fun z => absurd (nI_pos' (by omega)) z⟩
    have hp : p < n := by
      refine cc_in (pd := pd) (fun z => c6 ?_)
      rw [z]; decide
    intro y11 e11 d12 e12
    rw [e101, nI_1] at e11
    rw [e11] at e12
    have hR : CR d10 n pd p (ordN (ccF n pd p)) [] := ⟨hD10, e101, hpn, by rw [e102]; unfold ixR; rw [if_neg c6], e103, by decide, fun t ht => absurd ht (Nat.not_lt_zero t)⟩
    have hR2 : CR d12 n pd (p + 1) (ordN (ccF n pd p)) [] := by rw [e12]; exact hR.step hp
    rw [hR2.2.2.2.1]
    have go : ∀ t : Nat, t < 6 → t = (if ordN (ccF n pd p) = 0 then 1 else if ordN (ccF n pd p) = 1 then 2 else if ordN (ccF n pd p) = 2 then 3 else if ordN (ccF n pd p) = 4 then 4 else 5) → ∃ n0 : Nat, wX5_readOrder_b49 k n0 d12 t (1 : Int32) (0 : Int32) := by
      intro t ht et
      have hsl := shp_l _ h6
      rw [← et] at hsl
      refine ⟨12, c_parts ht (shpN (ordN (ccF n pd p))) 0 (p + 1) 12 [] d12 (by rw [hsl.1]; omega) (fun z hz => ?_) (by omega) (by show 0 + cntN _ ≤ 6; rw [Nat.zero_add]; exact shp_cnt _ h6) hR2 (fun r q ys he hr => hno r q ys he hr.1 hr.2.1 hr.2.2.1) (fun r q ys he hr => hk r q ys he hr)⟩
      have hs := shp_tx _ h6 z hz
      rw [← et] at hs
      rw [Nat.zero_add]
      exact ⟨hs.2.1, hs.2.2.1, hs.2.2.2⟩
    have dcase : ∀ j : Nat, j < 5 → (nI (ordN (ccF n pd p)) = nI j ↔ ordN (ccF n pd p) = j) := fun j hj => nI_eq (by omega) (by omega)
    unfold wX5_shapeOf wX5_shapeOf_b48
    refine ⟨fun z => go 1 (by omega) ?_, fun z => go 2 (by omega) ?_, fun z => go 3 (by omega) ?_, fun z => go 5 (by omega) ?_, fun z => go 4 (by omega) ?_, fun z0 z1 z2 z3 z4 => go 5 (by omega) ?_⟩
    · rw [(dcase 0 (by omega)).mp z]; rfl
    · rw [(dcase 1 (by omega)).mp z]; rfl
    · rw [(dcase 2 (by omega)).mp z]; rfl
    · rw [(dcase 3 (by omega)).mp z]; rfl
    · rw [(dcase 4 (by omega)).mp z]; rfl
    · have y0 : ¬ ordN (ccF n pd p) = 0 := fun y => z0 ((dcase 0 (by omega)).mpr y)
      have y1 : ¬ ordN (ccF n pd p) = 1 := fun y => z1 ((dcase 1 (by omega)).mpr y)
      have y2 : ¬ ordN (ccF n pd p) = 2 := fun y => z2 ((dcase 2 (by omega)).mpr y)
      have y4 : ¬ ordN (ccF n pd p) = 4 := fun y => z4 ((dcase 4 (by omega)).mpr y)
      rw [if_neg y0, if_neg y1, if_neg y2, if_neg y4]
end TC
