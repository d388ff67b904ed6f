/-! ===== the reference's reader ===== -/
theorem MM.at {m : qS} {v : vS} {u : Nat} {L : Nat → vS} {sl : Nat → Int32} {S : Nat → vS} {n : Nat} {pd : Nat → Int32} (h : MM m v u L sl S n pd) (i : Nat) (x : Int32) (h4 : i ≠ 4) (h8 : i ≠ 8) : MM (up2 m 0 i x) v u L sl S n pd := by
  obtain ⟨a1, a2, a3, a4, a5, a6, a7, a8, a9⟩ := h
  refine ⟨?_, ?_, a3, ?_, ?_, ?_, ?_, a8, ?_⟩
  · rw [up2_A, upA_n (by decide)]; exact a1
  · rw [up2_A, upA_s, upd_n (by omega)]; exact a2
  · rw [up2_A, upA_n (by decide)]; exact a4
  · rw [up2_A, upA_n (by decide)]; exact a5
  · rw [up2_A, upA_n (by decide)]; exact a6
  · rw [up2_A, upA_s, upd_n (by omega)]; exact a7
  · rw [up2_A, upA_n (by decide)]; exact a9
theorem MM.or {m : qS} {v : vS} {u : Nat} {L : Nat → vS} {sl : Nat → Int32} {S : Nat → vS} {n : Nat} {pd : Nat → Int32} (h : MM m v u L sl S n pd) (i : Nat) (x : Int32) : MM (up2 m 13 i x) v u L sl S n pd := by
  obtain ⟨a1, a2, a3, a4, a5, a6, a7, a8, a9⟩ := h
  refine ⟨?_, ?_, a3, ?_, ?_, ?_, ?_, a8, ?_⟩
  · rw [up2_A, upA_n (by decide)]; exact a1
  · rw [up2_A, upA_n (by decide)]; exact a2
  · rw [up2_A, upA_n (by decide)]; exact a4
  · rw [up2_A, upA_n (by decide)]; exact a5
  · rw [up2_A, upA_n (by decide)]; exact a6
  · rw [up2_A, upA_n (by decide)]; exact a7
  · rw [up2_A, upA_n (by decide)]; exact a9
section TM
variable {v : vS} {u : Nat} {L : Nat → vS} {sl : Nat → Int32} {S : Nat → vS} {n : Nat} {pd : Nat → Int32}
/-- the reader at p, well or not (w), with om orders laid into the row OR -/
def RR (v : vS) (u : Nat) (L : Nat → vS) (sl : Nat → Int32) (S : Nat → vS) (n : Nat) (pd : Nat → Int32) (m : qS) (p : Nat) (w : Int32) (om : Nat) (OR : Nat → Int32) : Prop := MM m v u L sl S n pd ∧ m 0 11 = nI p ∧ p ≤ n ∧ m 0 12 = w ∧ m 0 14 = nI om ∧ m 13 = OR
theorem RR.pos {m : qS} {p om q : Nat} {w : Int32} {OR : Nat → Int32} (h : RR v u L sl S n pd m p w om OR) (hq : q ≤ n) : RR v u L sl S n pd (up2 m 0 11 (nI q)) q w om OR := by
  obtain ⟨h1, h2, h3, h4, h5, h6⟩ := h
  exact ⟨h1.at 11 _ (by decide) (by decide), by rw [up2_A, upA_s, upd_s], hq, by rw [up2_A, upA_s, upd_n (by decide)]; exact h4, by rw [up2_A, upA_s, upd_n (by decide)]; exact h5, by rw [up2_A, upA_n (by decide)]; exact h6⟩
theorem RR.well {m : qS} {p om : Nat} {w w2 : Int32} {OR : Nat → Int32} (h : RR v u L sl S n pd m p w om OR) : RR v u L sl S n pd (up2 m 0 12 w2) p w2 om OR := by
  obtain ⟨h1, h2, h3, h4, h5, h6⟩ := h
  exact ⟨h1.at 12 _ (by decide) (by decide), by rw [up2_A, upA_s, upd_n (by decide)]; exact h2, h3, by rw [up2_A, upA_s, upd_s], by rw [up2_A, upA_s, upd_n (by decide)]; exact h5, by rw [up2_A, upA_n (by decide)]; exact h6⟩
theorem RR.many {m : qS} {p om o2 : Nat} {w : Int32} {OR : Nat → Int32} (h : RR v u L sl S n pd m p w om OR) : RR v u L sl S n pd (up2 m 0 14 (nI o2)) p w o2 OR := by
  obtain ⟨h1, h2, h3, h4, h5, h6⟩ := h
  exact ⟨h1.at 14 _ (by decide) (by decide), by rw [up2_A, upA_s, upd_n (by decide)]; exact h2, h3, by rw [up2_A, upA_s, upd_n (by decide)]; exact h4, by rw [up2_A, upA_s, upd_s], by rw [up2_A, upA_n (by decide)]; exact h6⟩
theorem RR.or {m : qS} {p om i : Nat} {w x : Int32} {OR : Nat → Int32} (h : RR v u L sl S n pd m p w om OR) : RR v u L sl S n pd (up2 m 13 i x) p w om (upd OR i x) := by
  obtain ⟨h1, h2, h3, h4, h5, h6⟩ := h
  exact ⟨h1.or i x, by rw [up2_A, upA_n (by decide)]; exact h2, h3, by rw [up2_A, upA_n (by decide)]; exact h4, by rw [up2_A, upA_n (by decide)]; exact h5, by rw [up2_A, upA_s, h6]⟩
variable {m : qS} {p om : Nat} {w : Int32} {OR : Nat → Int32}
theorem mm_eq (h : MM m v u L sl S n pd) (hp : ∀ j, j < n → ∃ c, 33 ≤ c ∧ c ≤ 126 ∧ pd j = nI c) {p : Nat} (c : p < n) : m 7 p = nI (ccF n pd p) := by
  obtain ⟨z, z1, z2, z3⟩ := hp p c
  unfold ccF
  rw [if_pos c, h.2.2.2.2.2.2.2.2 p c, z3]; unfold nn; rw [nI_clamp (by omega)]
/-- what the pad holds -/
abbrev padOk (n : Nat) (pd : Nat → Int32) : Prop := ∀ j, j < n → ∃ c, 33 ≤ c ∧ c ≤ 126 ∧ pd j = nI c
theorem cc_lt2 (hp : padOk n pd) (p : Nat) : ccF n pd p < 127 := by
  unfold ccF
  by_cases c : p < n
  · rw [if_pos c]
    obtain ⟨z, z1, z2, z3⟩ := hp p c
    rw [z3]; unfold nn; rw [nI_clamp (by omega)]; omega
  · rw [if_neg c]; omega
theorem e_sign {k : Int32 → qS → Prop} (hp : padOk n pd) (h : RR v u L sl S n pd m p w om OR) (hk : k (nI (ccF n pd p)) m) : wX10_sign k m := by
  obtain ⟨h1, h2, h3, h4, h5, h6⟩ := h
  have n80 := h1.2.2.2.2.2.2.2.1
  unfold wX10_sign wX10_sign_b24
  rw [h1.2.2.2.2.2.2.1, h2]
  refine pk_le n p (fun c => ?_) (fun c => ⟨vp_in_nI (by omega) (by omega), ?_⟩) rfl rfl (by omega) (by omega)
  · rw [cc_0 p c] at hk; exact hk
  · rw [nI_clamp (by omega), mm_eq h1 hp c]; exact hk
theorem fit01 : fits .boolean (.int (0 : Int32)) = true ∧ fits .boolean (.int (1 : Int32)) = true := by decide
theorem e_wants {k : qS → Prop} {c : Nat} (hp : padOk n pd) (hc : c < 128) (hc0 : c ≠ 0) (h : RR v u L sl S n pd m p 1 om OR) (hno : ccF n pd p ≠ c → ∀ r, RR v u L sl S n pd r p 0 om OR → k r) (hk : ccF n pd p = c → ∀ r, RR v u L sl S n pd r (p + 1) 1 om OR → k r) : wX10_wants k m (nI c) := by
  have hlt := cc_lt2 hp p
  unfold wX10_wants wX10_wants_b20 wX10_wants_b21 wX10_wants_b41
  rw [h.2.2.2.1]
  refine ⟨fun z => absurd z (by decide), fun _ => e_sign hp h ⟨fun z => ⟨nar01.1, fit01.1, fun q3 e3 => ?_⟩, fun z => ⟨nar01.2, fit01.2, fun q3 e3 => ?_⟩⟩⟩
  · have h3 : RR v u L sl S n pd q3 p 0 om OR := by rw [e3]; exact h.well
    rw [h3.2.2.2.1, h3.2.1]
    refine ⟨fun _ y1 e1 q2 e2 => ?_, fun z2 => absurd rfl z2⟩
    rw [e1, show nI p + (0 : Int32) = nI p from ixp0 p] at e2
    exact hno (fun y => z (by rw [y])) q2 (by rw [e2]; exact h3.pos h.2.2.1)
  · have h3 : RR v u L sl S n pd q3 p 1 om OR := by rw [e3]; exact h.well
    have e := (nI_eq (by omega) (by omega)).mp z
    rw [h3.2.2.2.1, h3.2.1]
    refine ⟨fun z2 => absurd z2 (by decide), fun _ y1 e1 q2 e2 => ?_⟩
    rw [e1, nI_1] at e2
    exact hk e q2 (by rw [e2]; exact h3.pos (cc_in (pd := pd) (by omega)))
theorem e_wants0 {k : qS → Prop} {x : Int32} (h : RR v u L sl S n pd m p 0 om OR) (hk : ∀ r, RR v u L sl S n pd r p 0 om OR → k r) : wX10_wants k m x := by
  unfold wX10_wants wX10_wants_b20 wX10_wants_b21 wX10_wants_b41
  rw [h.2.2.2.1]
  refine ⟨fun _ => ⟨nar01.1, fit01.1, fun q3 e3 => ?_⟩, fun z => absurd rfl z⟩
  have h3 : RR v u L sl S n pd q3 p 0 om OR := by rw [e3]; exact h.well
  rw [h3.2.2.2.1, h3.2.1]
  refine ⟨fun _ y1 e1 q2 e2 => ?_, fun z2 => absurd rfl z2⟩
  rw [e1, show nI p + (0 : Int32) = nI p from ixp0 p] at e2
  exact hk q2 (by rw [e2]; exact h3.pos h.2.2.1)
theorem e_digit {k : Int32 → qS → Prop} (hp : padOk n pd) (h : RR v u L sl S n pd m p 1 om OR) (hno : ¬ (49 ≤ ccF n pd p ∧ ccF n pd p ≤ 57) → ∀ x r, RR v u L sl S n pd r p 0 om OR → k x r) (hk : 49 ≤ ccF n pd p ∧ ccF n pd p ≤ 57 → ∀ r, RR v u L sl S n pd r (p + 1) 1 om OR → k (nI (ccF n pd p - 48)) r) : wX10_digit k m := by
  have hlt := cc_lt2 hp p
  have hb := isIn_b (b := ccF n pd p) (l := 49) (u := 57) (by omega) (by omega) (by omega)
  unfold wX10_digit wX10_digit_b26 wX10_digit_b27 wX10_digit_b55
  rw [h.2.2.2.1]
  refine ⟨fun z => absurd z (by decide), fun _ => e_sign hp h (e_inC (fun z => ⟨fun z2 => absurd z2 (by decide), fun _ => ⟨nar01.2, fit01.2, fun q3 e3 => ?_⟩⟩) (fun z => ⟨fun _ => ⟨nar01.1, fit01.1, fun q3 e3 => ?_⟩, fun z2 => absurd rfl z2⟩))⟩
  · have h3 : RR v u L sl S n pd q3 p 1 om OR := by rw [e3]; exact h.well
    have e := hb.mp z
    refine e_sign hp h3 ?_
    intro y6 e6
    rw [h3.2.2.2.1, h3.2.1]
    refine ⟨fun z2 => absurd z2 (by decide), fun _ y1 e1 q2 e2 => ?_⟩
    rw [e1, nI_1] at e2
    rw [e6, sub48 (by omega)]
    exact hk e q2 (by rw [e2]; exact h3.pos (cc_in (pd := pd) (by omega)))
  · have h3 : RR v u L sl S n pd q3 p 0 om OR := by rw [e3]; exact h.well
    refine e_sign hp h3 ?_
    intro y6 e6
    rw [h3.2.2.2.1, h3.2.1]
    refine ⟨fun _ y1 e1 q2 e2 => ?_, fun z2 => absurd rfl z2⟩
    rw [e1, show nI p + (0 : Int32) = nI p from ixp0 p] at e2
    exact hno (fun y => z (hb.mpr y)) _ q2 (by rw [e2]; exact h3.pos h.2.2.1)
theorem e_digit0 {k : Int32 → qS → Prop} (hp : padOk n pd) (h : RR v u L sl S n pd m p 0 om OR) (hk : ∀ x r, RR v u L sl S n pd r p 0 om OR → k x r) : wX10_digit k m := by
  unfold wX10_digit wX10_digit_b26 wX10_digit_b27 wX10_digit_b55
  rw [h.2.2.2.1]
  refine ⟨fun _ => ⟨nar01.1, fit01.1, fun q3 e3 => ?_⟩, fun z => absurd rfl z⟩
  have h3 : RR v u L sl S n pd q3 p 0 om OR := by rw [e3]; exact h.well
  refine e_sign hp h3 ?_
  intro y6 e6
  rw [h3.2.2.2.1, h3.2.1]
  refine ⟨fun _ y1 e1 q2 e2 => ?_, fun z2 => absurd rfl z2⟩
  rw [e1, show nI p + (0 : Int32) = nI p from ixp0 p] at e2
  exact hk _ q2 (by rw [e2]; exact h3.pos h.2.2.1)
theorem e_num_l {k : Int32 → qS → Prop} (hp : padOk n pd) : ∀ (dd p a nf : Nat) (m : qS), dd ≤ 3 → numJ dd a → dd < nf → RR v u L sl S n pd m p 1 om OR → (∀ r, RR v u L sl S n pd r (numN (ccF n pd) dd p a).1 1 om OR → k (nI (numN (ccF n pd) dd p a).2) r) → wX10_number_b61 k nf m (nI a) (nI (4 - dd)) := by
  intro dd
  induction dd with
  | zero =>
    intro p a nf m h3 hJ hn h hk
    obtain ⟨nf, rfl⟩ : ∃ z, nf = z + 1 := ⟨nf - 1, by omega⟩
    unfold wX10_number_b61 wX10_number_b120
    exact ⟨fun _ => hk m h, fun z => absurd (by decide : (4 : Int32) ≤ nI (4 - 0)) z⟩
  | succ dd ih =>
    intro p a nf m h3 hJ hn h hk
    obtain ⟨nf, rfl⟩ : ∃ z, nf = z + 1 := ⟨nf - 1, by omega⟩
    have ha : a < 10000 := by unfold numJ at hJ; omega
    have hlt := cc_lt2 hp p
    unfold numN at hk
    have fin : ¬ (1 ≤ a ∧ 48 ≤ ccF n pd p ∧ ccF n pd p ≤ 57) → k (nI a) m := by
      intro c
      rw [if_neg c] at hk
      exact hk m h
    unfold wX10_number_b61 wX10_number_b120
    rw [h.2.2.2.1]
    refine ⟨fun z => absurd ((nI_leI (a := 4) (b := 4 - (dd + 1)) (by omega) (by omega)).mp z) (by omega), fun _ => ⟨fun z => absurd z (by decide), fun _ => ⟨fun z => fin (fun y => absurd ((nI_le0 (by omega)).mp z) (by omega)), fun z => ?_⟩⟩⟩
    have h1 : 1 ≤ a := by
      rcases Nat.eq_zero_or_pos a with y | y
      · exact absurd ((nI_le0 (by omega)).mpr y) z
      · exact y
    have hb := isIn_b (b := ccF n pd p) (l := 48) (u := 57) (by omega) (by omega) (by omega)
    refine e_sign hp h (e_inC (fun z3 => ⟨fun z2 => absurd z2 (by decide), fun _ => e_sign hp h ?_⟩) (fun z3 => ⟨fun _ => fin (fun y => z3 (hb.mpr (by omega))), fun z2 => absurd rfl z2⟩))
    have hd := hb.mp z3
    intro y6 e6 y7 e7 q8 e8 y9 e9
    rw [h.2.1, nI_1] at e7
    rw [e7] at e8
    have e : (10 : Int32) * nI a + nI (ccF n pd p) - (48 : Int32) = nI (10 * a + ccF n pd p - 48) := by
      rw [show (10 : Int32) = nI 10 from rfl, pk_mul, nI_add, sub48 (by omega)]
    rw [e6, e, e9, nI_1, show 4 - (dd + 1) + 1 = 4 - dd from by omega]
    rw [if_pos (by omega)] at hk
    refine ih (p + 1) _ nf q8 (by omega) ?_ (by omega) (by rw [e8]; exact h.pos (cc_in (pd := pd) (by omega))) hk
    unfold numJ at hJ ⊢
    omega
theorem e_number {k : Int32 → qS → Prop} (hp : padOk n pd) (h : RR v u L sl S n pd m p 1 om OR) (hno : ¬ (48 ≤ ccF n pd p ∧ ccF n pd p ≤ 57) → ∀ x r, RR v u L sl S n pd r p 0 om OR → k x r)
    (hk : 48 ≤ ccF n pd p ∧ ccF n pd p ≤ 57 → ∀ r, RR v u L sl S n pd r (numN (ccF n pd) 3 (p + 1) (ccF n pd p - 48)).1 1 om OR → k (nI (numN (ccF n pd) 3 (p + 1) (ccF n pd p - 48)).2) r) : wX10_number k m := by
  have hlt := cc_lt2 hp p
  have hb := isIn_b (b := ccF n pd p) (l := 48) (u := 57) (by omega) (by omega) (by omega)
  unfold wX10_number wX10_number_b26 wX10_number_b27 wX10_number_b55
  rw [h.2.2.2.1]
  refine ⟨fun z => absurd z (by decide), fun _ => e_sign hp h (e_inC (fun z => ⟨fun z2 => absurd z2 (by decide), fun _ => ⟨nar01.2, fit01.2, fun q3 e3 => ?_⟩⟩) (fun z => ⟨fun _ => ⟨nar01.1, fit01.1, fun q3 e3 => ?_⟩, fun z2 => absurd rfl z2⟩))⟩
  · have h3 : RR v u L sl S n pd q3 p 1 om OR := by rw [e3]; exact h.well
    have e := hb.mp z
    refine e_sign hp h3 ?_
    intro y6 e6
    rw [h3.2.2.2.1, h3.2.1]
    refine ⟨fun z2 => absurd z2 (by decide), fun _ y1 e1 q2 e2 => ?_⟩
    rw [e1, nI_1] at e2
    rw [e6, sub48 (by omega)]
    exact ⟨4, e_num_l hp 3 (p + 1) _ 4 q2 (by omega) (by unfold numJ; omega) (by omega) (by rw [e2]; exact h3.pos (cc_in (pd := pd) (by omega))) (hk e)⟩
  · have h3 : RR v u L sl S n pd q3 p 0 om OR := by rw [e3]; exact h.well
    refine e_sign hp h3 ?_
    intro y6 e6
    rw [h3.2.2.2.1, h3.2.1]
    refine ⟨fun _ y1 e1 q2 e2 => ⟨1, ?_⟩, fun z2 => absurd rfl z2⟩
    rw [e1, show nI p + (0 : Int32) = nI p from ixp0 p] at e2
    have h2 : RR v u L sl S n pd q2 p 0 om OR := by rw [e2]; exact h3.pos h.2.2.1
    unfold wX10_number_b61 wX10_number_b120
    rw [h2.2.2.2.1]
    exact ⟨fun z => absurd z (by decide), fun _ => ⟨fun _ => hno (fun y => z (hb.mpr y)) _ q2 h2, fun z2 => absurd rfl z2⟩⟩
theorem e_number0 {k : Int32 → qS → Prop} (hp : padOk n pd) (h : RR v u L sl S n pd m p 0 om OR) (hk : ∀ x r, RR v u L sl S n pd r p 0 om OR → k x r) : wX10_number k m := by
  unfold wX10_number wX10_number_b26 wX10_number_b27 wX10_number_b55
  rw [h.2.2.2.1]
  refine ⟨fun _ => ⟨nar01.1, fit01.1, fun q3 e3 => ?_⟩, fun z => absurd rfl z⟩
  have h3 : RR v u L sl S n pd q3 p 0 om OR := by rw [e3]; exact h.well
  refine e_sign hp h3 ?_
  intro y6 e6
  rw [h3.2.2.2.1, h3.2.1]
  refine ⟨fun _ y1 e1 q2 e2 => ⟨1, ?_⟩, fun z2 => absurd rfl z2⟩
  rw [e1, show nI p + (0 : Int32) = nI p from ixp0 p] at e2
  have h2 : RR v u L sl S n pd q2 p 0 om OR := by rw [e2]; exact h3.pos h.2.2.1
  unfold wX10_number_b61 wX10_number_b120
  rw [h2.2.2.2.1]
  exact ⟨fun z => absurd z (by decide), fun _ => ⟨fun _ => hk _ q2 h2, fun z2 => absurd rfl z2⟩⟩
theorem ix7 (om t : Nat) : (7 : Int32) * nI om + nI t = nI (7 * om + t) := by rw [show (7 : Int32) = nI 7 from rfl, pk_mul, nI_add]
theorem e_next0 {k : qS → Prop} {t : Nat} {c : Int32} (hp : padOk n pd) (hi : 7 * om + t < 294) (h : RR v u L sl S n pd m p 0 om OR) (hk : ∀ x r, RR v u L sl S n pd r p 0 om (upd OR (7 * om + t) x) → k r) : wX10_next k m (nI t) c := by
  unfold wX10_next
  refine e_wants0 h (fun r hr => e_number0 hp hr (fun x r2 hr2 => ?_))
  rw [hr.2.2.2.2.1, ix7, nI_clamp (by omega)]
  exact ⟨vp_in_nI hi (by omega), fun q5 e5 => hk x q5 (by rw [e5]; exact hr2.or)⟩
theorem e_next {k : qS → Prop} {t c : Nat} (hp : padOk n pd) (hc : c < 128) (hc0 : c ≠ 0) (hi : 7 * om + t < 294) (h : RR v u L sl S n pd m p 1 om OR)
    (hno1 : ccF n pd p ≠ c → ∀ x r, RR v u L sl S n pd r p 0 om (upd OR (7 * om + t) x) → k r)
    (hno2 : ccF n pd p = c → ¬ (48 ≤ ccF n pd (p + 1) ∧ ccF n pd (p + 1) ≤ 57) → ∀ x r, RR v u L sl S n pd r (p + 1) 0 om (upd OR (7 * om + t) x) → k r)
    (hk : ccF n pd p = c → 48 ≤ ccF n pd (p + 1) ∧ ccF n pd (p + 1) ≤ 57 → ∀ r, RR v u L sl S n pd r (numN (ccF n pd) 3 (p + 1 + 1) (ccF n pd (p + 1) - 48)).1 1 om (upd OR (7 * om + t) (nI (numN (ccF n pd) 3 (p + 1 + 1) (ccF n pd (p + 1) - 48)).2)) → k r) : wX10_next k m (nI t) (nI c) := by
  unfold wX10_next
  refine e_wants hp hc hc0 h (fun z r hr => e_number0 hp hr (fun x r2 hr2 => ?_)) (fun z r hr => e_number hp hr (fun z2 x r2 hr2 => ?_) (fun z2 r2 hr2 => ?_))
  · rw [hr.2.2.2.2.1, ix7, nI_clamp (by omega)]
    exact ⟨vp_in_nI hi (by omega), fun q5 e5 => hno1 z x q5 (by rw [e5]; exact hr2.or)⟩
  · rw [hr.2.2.2.2.1, ix7, nI_clamp (by omega)]
    exact ⟨vp_in_nI hi (by omega), fun q5 e5 => hno2 z z2 x q5 (by rw [e5]; exact hr2.or)⟩
  · rw [hr.2.2.2.2.1, ix7, nI_clamp (by omega)]
    exact ⟨vp_in_nI hi (by omega), fun q5 e5 => hk z z2 q5 (by rw [e5]; exact hr2.or)⟩
/-- numbers behind signs, one after the other -/
def nextsW (k : qS → Prop) : List Nat → Nat → qS → Prop
  | [], _, q => k q
  | c :: cs, t, q => wX10_next (fun q => nextsW k cs (t + 1) q) q (nI t) (nI c)
def sgS : List Nat → List Nat
  | [] => []
  | c :: cs => c :: 110 :: sgS cs
theorem e_nexts0 {k : qS → Prop} (hp : padOk n pd) : ∀ (cs : List Nat) (t : Nat) (m : qS) (OR : Nat → Int32), 1 ≤ t → 7 * om + t + cs.length ≤ 294 → RR v u L sl S n pd m p 0 om OR → (∀ r OR2, (∀ j, j < 7 * om + 1 → OR2 j = OR j) → RR v u L sl S n pd r p 0 om OR2 → k r) → nextsW k cs t m
  | [], t, m, OR, _, _, h, hk => hk m OR (fun _ _ => rfl) h
  | c :: cs, t, m, OR, ht, hi, h, hk => by
    have hi : 7 * om + t + (cs.length + 1) ≤ 294 := hi
    refine e_next0 hp (by omega) h (fun x r hr => e_nexts0 hp cs (t + 1) r _ (by omega) (by omega) hr (fun r2 OR2 h2 hr2 => hk r2 OR2 (fun j hj => ?_) hr2))
    rw [h2 j hj, upd_n (by omega)]
theorem e_nexts {k : qS → Prop} (hp : padOk n pd) : ∀ (cs : List Nat) (p : Nat) (xs : List Nat) (m : qS) (OR : Nat → Int32), (∀ c ∈ cs, c ≠ 0 ∧ c ≠ 110 ∧ c ≠ 49 ∧ c < 128) → 7 * om + 1 + xs.length + cs.length ≤ 294 → RR v u L sl S n pd m p 1 om OR → (∀ t, t < xs.length → OR (7 * om + 1 + t) = nI (xs.getD t 0)) →
    (∀ r OR2 q ys, rdS (ccF n pd) (sgS cs) p xs = (false, q, ys) → (∀ j, j < 7 * om + 1 → OR2 j = OR j) → RR v u L sl S n pd r q 0 om OR2 → k r) →
    (∀ r OR2 q ys, rdS (ccF n pd) (sgS cs) p xs = (true, q, ys) → (∀ j, j < 7 * om + 1 → OR2 j = OR j) → RR v u L sl S n pd r q 1 om OR2 → (∀ t, t < ys.length → OR2 (7 * om + 1 + t) = nI (ys.getD t 0)) → k r) → nextsW k cs (xs.length + 1) m
  | [], p, xs, m, OR, _, _, h, hx, _, hk => hk m OR p xs rfl (fun _ _ => rfl) h hx
  | c :: cs, p, xs, m, OR, hc, hi, h, hx, hno, hk => by
    have hi : 7 * om + 1 + xs.length + (cs.length + 1) ≤ 294 := hi
    obtain ⟨g0, g1, g2, g3⟩ := hc c List.mem_cons_self
    have hcs : ∀ z ∈ cs, z ≠ 0 ∧ z ≠ 110 ∧ z ≠ 49 ∧ z < 128 := fun z hz => hc z (List.mem_cons_of_mem _ hz)
    have hs : sgS (c :: cs) = c :: 110 :: sgS cs := rfl
    rw [hs, rdS_c, if_neg g1, if_neg g2] at hno hk
    refine e_next hp g3 g0 (by omega) h (fun z x r hr => ?_) (fun z z2 x r hr => ?_) (fun z z2 r hr => ?_)
    · rw [if_neg z] at hno
      exact e_nexts0 hp cs _ r _ (by omega) (by omega) hr (fun r2 OR2 h2 hr2 => hno r2 OR2 p xs rfl (fun j hj => by rw [h2 j hj, upd_n (by omega)]) hr2)
    · rw [if_pos z, rdS_c, if_pos rfl, if_neg z2] at hno
      exact e_nexts0 hp cs _ r _ (by omega) (by omega) hr (fun r2 OR2 h2 hr2 => hno r2 OR2 (p + 1) xs rfl (fun j hj => by rw [h2 j hj, upd_n (by omega)]) hr2)
    · rw [if_pos z, rdS_c, if_pos rfl, if_pos z2] at hno hk
      have hl : (xs ++ [(numN (ccF n pd) 3 (p + 1 + 1) (ccF n pd (p + 1) - 48)).2]).length = xs.length + 1 := by rw [List.length_append]; rfl
      have K := e_nexts (k := k) hp cs _ (xs ++ [(numN (ccF n pd) 3 (p + 1 + 1) (ccF n pd (p + 1) - 48)).2]) r _ hcs (by rw [hl]; omega) hr (fun t ht => by
        rw [hl] at ht
        by_cases y : t = xs.length
        · subst y
          rw [getD_sr, show 7 * om + 1 + xs.length = 7 * om + (xs.length + 1) from by omega, upd_s]
        · rw [getD_sl (by omega), upd_n (by omega)]
          exact hx t (by omega)) (fun r2 OR2 q ys he h2 hr2 => hno r2 OR2 q ys he (fun j hj => by rw [h2 j hj, upd_n (by omega)]) hr2) (fun r2 OR2 q ys he h2 hr2 h3 => hk r2 OR2 q ys he (fun j hj => by rw [h2 j hj, upd_n (by omega)]) hr2 h3)
      rw [hl] at K
      exact K
theorem e_b218 {k : qS → Prop} (h : RR v u L sl S n pd m p w om OR) (h01 : w = 0 ∨ w = 1) (hno : w = 0 → ∀ r, RR v u L sl S n pd r p 0 om OR → k r) (hk : w = 1 → ∀ r, RR v u L sl S n pd r p 1 (om + 1) OR → k r) : wX10_readsOrder_b218 k m := by
  unfold wX10_readsOrder_b218 wX10_readsOrder_b235
  rw [h.2.2.2.1, h.2.2.2.2.1]
  rcases h01 with rfl | rfl
  · refine ⟨fun _ y1 e1 q2 e2 => ?_, fun z => absurd rfl z⟩
    rw [e1, show nI om + (0 : Int32) = nI om from ixp0 om] at e2
    exact hno rfl q2 (by rw [e2]; exact h.many)
  · refine ⟨fun z => absurd z (by decide), fun _ y1 e1 q2 e2 => ?_⟩
    rw [e1, nI_1] at e2
    exact hk rfl q2 (by rw [e2]; exact h.many)
/-- what is behind an order: failed at q, or read with the numbers ys -/
def ordK (v : vS) (u : Nat) (L : Nat → vS) (sl : Nat → Int32) (S : Nat → vS) (n : Nat) (pd : Nat → Int32) (k : qS → Prop) (om : Nat) (c : Nat) (OR : Nat → Int32) (R : Bool × Nat × List Nat) : Prop :=
  (R.1 = false → ∀ r OR2, (∀ j, j < 7 * om → OR2 j = OR j) → RR v u L sl S n pd r R.2.1 0 om OR2 → k r) ∧ (R.1 = true → ∀ r OR2, (∀ j, j < 7 * om → OR2 j = OR j) → OR2 (7 * om) = nI c → (∀ t, t < R.2.2.length → OR2 (7 * om + 1 + t) = nI (R.2.2.getD t 0)) → RR v u L sl S n pd r R.2.1 1 (om + 1) OR2 → k r)
/-- the row's beginning: the letter c, and the orders ahead as they were -/
def preK (om : Nat) (c : Nat) (OR OR2 : Nat → Int32) : Prop := (∀ j, j < 7 * om → OR2 j = OR j) ∧ OR2 (7 * om) = nI c
theorem preK.to {om c : Nat} {OR OR1 OR2 : Nat → Int32} (h : preK om c OR OR1) (h2 : ∀ j, j < 7 * om + 1 → OR2 j = OR1 j) : preK om c OR OR2 := ⟨fun j hj => by rw [h2 j (by omega)]; exact h.1 j hj, by rw [h2 _ (by omega)]; exact h.2⟩
theorem preK.up {om c i : Nat} {x : Int32} {OR OR1 : Nat → Int32} (h : preK om c OR OR1) (hi : 7 * om < i) : preK om c OR (upd OR1 i x) := h.to (fun j hj => upd_n (by omega))
theorem ord_no {k : qS → Prop} {c : Nat} {OR OR1 : Nat → Int32} {R : Bool × Nat × List Nat} {q : Nat} {ys : List Nat} (hk : ordK v u L sl S n pd k om c OR R) (hR : R = (false, q, ys)) (hp : ∀ j, j < 7 * om → OR1 j = OR j) (h : RR v u L sl S n pd m q 0 om OR1) : wX10_readsOrder_b218 k m := by
  subst hR
  exact e_b218 h (Or.inl rfl) (fun _ r hr => hk.1 rfl r OR1 hp hr) (fun z => absurd z (by decide))
theorem ord_ok {k : qS → Prop} {c : Nat} {OR OR1 : Nat → Int32} {R : Bool × Nat × List Nat} {q : Nat} {ys : List Nat} (hk : ordK v u L sl S n pd k om c OR R) (hR : R = (true, q, ys)) (hp : preK om c OR OR1) (hy : ∀ t, t < ys.length → OR1 (7 * om + 1 + t) = nI (ys.getD t 0)) (h : RR v u L sl S n pd m q 1 om OR1) : wX10_readsOrder_b218 k m := by
  subst hR
  exact e_b218 h (Or.inr rfl) (fun z => absurd z (by decide)) (fun _ r hr => hk.2 rfl r OR1 hp.1 hp.2 hy hr)
/-- behind the first number, when all is lost -/
theorem ord_dead {k : qS → Prop} {c c2 : Nat} {OR OR1 : Nat → Int32} {R : Bool × Nat × List Nat} {q : Nat} {ys : List Nat} (hpd : padOk n pd) (hom : om ≤ 40) (hk : ordK v u L sl S n pd k om c OR R) (hR : R = (false, q, ys)) (hp : ∀ j, j < 7 * om + 1 → OR1 j = OR j ∨ 7 * om ≤ j) (h : RR v u L sl S n pd m q 0 om OR1) : wX10_readsOrder_b142 k m (nI (7 * om)) (nI c2) := by
  unfold wX10_readsOrder_b142
  have pre : ∀ OR2 : Nat → Int32, (∀ j, j < 7 * om + 1 → OR2 j = OR1 j) → ∀ j, j < 7 * om → OR2 j = OR j := fun OR2 h2 j hj => by
    rw [h2 j (by omega)]
    rcases hp j (by omega) with z | z
    · exact z
    · omega
  refine ⟨fun _ => ⟨fun _ => ord_no hk hR (pre OR1 (fun _ _ => rfl)) h, fun _ => ?_⟩, fun _ => ?_⟩
  · exact e_nexts0 (k := fun q => wX10_readsOrder_b218 k q) hpd [58, 45, 47, 45, 36] 2 m OR1 (by omega) (by show 7 * om + 2 + 5 ≤ 294; omega) h (fun r OR2 h2 hr => ord_no hk hR (pre OR2 h2) hr)
  · refine e_wants0 h (fun r hr => e_digit0 hpd hr (fun x r2 hr2 => ?_))
    rw [show nI (7 * om) + (2 : Int32) = nI (7 * om + 2) from nI_add _ 2, nI_clamp (by omega)]
    refine ⟨vp_in_nI (by omega) (by omega), fun q17 e17 => ?_⟩
    have h17 : RR v u L sl S n pd q17 q 0 om (upd OR1 (7 * om + 2) x) := by rw [e17]; exact hr2.or
    exact e_nexts0 (k := fun q => wX10_readsOrder_b218 k q) hpd [43] 3 q17 _ (by omega) (by show 7 * om + 3 + 1 ≤ 294; omega) h17 (fun r3 OR2 h2 hr3 => ord_no hk hR (fun j hj => by rw [h2 j (by omega), upd_n (by omega)]; exact pre OR1 (fun _ _ => rfl) j hj) hr3)
theorem sgs_ok : ∀ c ∈ [58, 45, 47, 45, 36, 43], c ≠ 0 ∧ c ≠ 110 ∧ c ≠ 49 ∧ c < 128 := by decide
/-- the letter is well: behind the first number -/
theorem ord_well {k : qS → Prop} {c q : Nat} {xs : List Nat} {OR OR1 : Nat → Int32} {R : Bool × Nat × List Nat} (hpd : padOk n pd) (hom : om ≤ 40) (hc : c < 127) (hk : ordK v u L sl S n pd k om c OR R) (hp : preK om c OR OR1) (hx : ∀ t, t < xs.length → OR1 (7 * om + 1 + t) = nI (xs.getD t 0)) (h : RR v u L sl S n pd m q 1 om OR1)
    (hR0 : c ≠ 102 → c ≠ 99 → R = (true, q, xs)) (hR1 : c = 99 → xs.length = 1 ∧ R = rdS (ccF n pd) (sgS [58, 45, 47, 45, 36]) q xs) (hR2 : c = 102 → xs.length = 1 ∧ R = rdS (ccF n pd) [42, 49, 43, 110] q xs) : wX10_readsOrder_b142 k m (nI (7 * om)) (nI c) := by
  unfold wX10_readsOrder_b142
  have e1 : nI c = (102 : Int32) ↔ c = 102 := nI_eq (a := c) (b := 102) (by omega) (by omega)
  have e2 : nI c = (99 : Int32) ↔ c = 99 := nI_eq (a := c) (b := 99) (by omega) (by omega)
  rw [e1, e2]
  refine ⟨fun z => ⟨fun z2 => ord_ok hk (hR0 z z2) hp hx h, fun z2 => ?_⟩, fun z => ?_⟩
  · obtain ⟨l1, eR⟩ := hR1 z2
    have K := e_nexts (k := fun q => wX10_readsOrder_b218 k q) hpd [58, 45, 47, 45, 36] q xs m OR1 (fun y hy => sgs_ok y (by revert y; decide)) (by rw [l1]; show 7 * om + 1 + 1 + 5 ≤ 294; omega) h hx
      (fun r OR2 q2 ys he h2 hr => ord_no hk (eR.trans he) (hp.to h2).1 hr) (fun r OR2 q2 ys he h2 hr h3 => ord_ok hk (eR.trans he) (hp.to h2) h3 hr)
    rw [l1] at K
    exact K
  · obtain ⟨l1, eR⟩ := hR2 z
    rw [rdS_c, if_neg (by decide), if_neg (by decide)] at eR
    refine e_wants hpd (c := 42) (by omega) (by omega) h (fun y r hr => ?_) (fun y r hr => ?_)
    · rw [if_neg y] at eR
      refine e_digit0 hpd hr (fun x r2 hr2 => ?_)
      rw [show nI (7 * om) + (2 : Int32) = nI (7 * om + 2) from nI_add _ 2, nI_clamp (by omega)]
      refine ⟨vp_in_nI (by omega) (by omega), fun q17 e17 => ?_⟩
      have h17 : RR v u L sl S n pd q17 q 0 om (upd OR1 (7 * om + 2) x) := by rw [e17]; exact hr2.or
      exact e_nexts0 (k := fun q => wX10_readsOrder_b218 k q) hpd [43] 3 q17 _ (by omega) (by show 7 * om + 3 + 1 ≤ 294; omega) h17 (fun r3 OR2 h2 hr3 => ord_no hk eR ((hp.up (by omega)).to h2).1 hr3)
    · rw [if_pos y, rdS_c, if_neg (by decide), if_pos rfl] at eR
      refine e_digit hpd hr (fun y2 x r2 hr2 => ?_) (fun y2 r2 hr2 => ?_)
      · rw [if_neg y2] at eR
        rw [show nI (7 * om) + (2 : Int32) = nI (7 * om + 2) from nI_add _ 2, nI_clamp (by omega)]
        refine ⟨vp_in_nI (by omega) (by omega), fun q17 e17 => ?_⟩
        have h17 : RR v u L sl S n pd q17 (q + 1) 0 om (upd OR1 (7 * om + 2) x) := by rw [e17]; exact hr2.or
        exact e_nexts0 (k := fun q => wX10_readsOrder_b218 k q) hpd [43] 3 q17 _ (by omega) (by show 7 * om + 3 + 1 ≤ 294; omega) h17 (fun r3 OR2 h2 hr3 => ord_no hk eR ((hp.up (by omega)).to h2).1 hr3)
      · rw [if_pos y2] at eR
        rw [show nI (7 * om) + (2 : Int32) = nI (7 * om + 2) from nI_add _ 2, nI_clamp (by omega)]
        refine ⟨vp_in_nI (by omega) (by omega), fun q17 e17 => ?_⟩
        have h17 : RR v u L sl S n pd q17 (q + 1 + 1) 1 om (upd OR1 (7 * om + 2) (nI (ccF n pd (q + 1) - 48))) := by rw [e17]; exact hr2.or
        have hl : (xs ++ [ccF n pd (q + 1) - 48]).length = 2 := by rw [List.length_append, l1]; rfl
        have K := e_nexts (k := fun q => wX10_readsOrder_b218 k q) hpd [43] (q + 1 + 1) (xs ++ [ccF n pd (q + 1) - 48]) q17 _ (fun y hy => sgs_ok y (by revert y; decide)) (by rw [hl]; show 7 * om + 1 + 2 + 1 ≤ 294; omega) h17 (fun t ht => by
          rw [hl] at ht
          by_cases y3 : t = 1
          · subst y3
            have := getD_sr (xs := xs) (x := ccF n pd (q + 1) - 48)
            rw [l1] at this
            rw [this, show 7 * om + 1 + 1 = 7 * om + 2 from by omega, upd_s]
          · rw [getD_sl (by omega), upd_n (by omega)]
            exact hx t (by omega)) (fun r3 OR2 q2 ys he h2 hr3 => ord_no hk (eR.trans he) ((hp.up (by omega)).to h2).1 hr3) (fun r3 OR2 q2 ys he h2 hr3 h3 => ord_ok hk (eR.trans he) ((hp.up (by omega)).to h2) h3 hr3)
        rw [hl] at K
        exact K
theorem ord_cases : ∀ c : Nat, c < 127 → (ordN c = 6 ↔ ¬ (c = 102 ∨ c = 99 ∨ c = 103 ∨ c = 100 ∨ c = 109 ∨ c = 120)) := by decide
/-- an order is read by the reference -/
theorem e_order {k : qS → Prop} (hpd : padOk n pd) (hom : om ≤ 40) (h : RR v u L sl S n pd m p 1 om OR) (hk : ordK v u L sl S n pd k om (ccF n pd p) OR (rdO (ccF n pd) p)) : wX10_readsOrder k m := by
  have hlt := cc_lt2 hpd p
  have hoc := ord_cases _ hlt
  have E : ∀ j : Nat, j < 128 → (nI (ccF n pd p) = nI j ↔ ccF n pd p = j) := fun j hj => nI_eq (by omega) (by omega)
  unfold wX10_readsOrder
  intro y30 e30
  rw [h.2.2.2.2.1, show (7 : Int32) * nI om = nI (7 * om) from pk_mul 7 om] at e30
  rw [e30]
  refine e_sign hpd h ?_
  -- a letter
  have yes : ordN (ccF n pd p) ≠ 6 → wX10_readsOrder_b49 k m (nI (7 * om)) (nI (ccF n pd p)) := by
    intro h6
    have hc := (not_congr hoc).mp h6
    rw [Decidable.not_not] at hc
    have hp : p < n := cc_in (pd := pd) (by omega)
    unfold rdO at hk
    rw [if_neg h6] at hk
    unfold wX10_readsOrder_b49 wX10_readsOrder_b54 wX10_readsOrder_b72 wX10_readsOrder_b92
    rw [h.2.2.2.1]
    refine ⟨fun z => absurd z (by decide), fun _ => ⟨fun z => absurd z (by decide), fun _ => ⟨nar01.2, fit01.2, fun q29 e29 => ?_⟩⟩⟩
    have h29 : RR v u L sl S n pd q29 p 1 om OR := by rw [e29]; exact h.well
    rw [h29.2.2.2.1, h29.2.1]
    refine ⟨fun z => absurd z (by decide), fun _ y20 e20 q21 e21 => ?_⟩
    rw [e20, nI_1] at e21
    have h21 : RR v u L sl S n pd q21 (p + 1) 1 om OR := by rw [e21]; exact h29.pos hp
    refine ⟨vp_in_nI (by omega) (by omega), fun q22 e22 => ?_⟩
    rw [nI_clamp (by omega)] at e22
    have h22 : RR v u L sl S n pd q22 (p + 1) 1 om (upd OR (7 * om) (nI (ccF n pd p))) := by rw [e22]; exact h21.or
    have hpre : preK om (ccF n pd p) OR (upd OR (7 * om) (nI (ccF n pd p))) := ⟨fun j hj => upd_n (by omega), upd_s⟩
    have E103 : nI (ccF n pd p) = (103 : Int32) ↔ ccF n pd p = 103 := E 103 (by omega)
    have E109 : nI (ccF n pd p) = (109 : Int32) ↔ ccF n pd p = 109 := E 109 (by omega)
    rw [E103, E109]
    have one : ∀ (a : Nat) (t : Nat), t < [a].length → upd (upd OR (7 * om) (nI (ccF n pd p))) (7 * om + 1) (nI a) (7 * om + 1 + t) = nI ([a].getD t 0) := by
      intro a t ht
      have ht : t < 1 := ht
      obtain rfl : t = 0 := by omega
      rw [Nat.add_zero, upd_s]; rfl
    refine ⟨fun z => ⟨fun z2 => ?_, fun z2 => ?_⟩, fun z => ?_⟩
    · -- m
      refine ord_well (xs := []) hpd hom hlt hk hpre (fun t ht => absurd ht (Nat.not_lt_zero t)) h22 (fun _ _ => ?_) (fun y => by omega) (fun y => by omega)
      rw [z2]; rfl
    · -- a number first
      have hs : shpN (ordN (ccF n pd p)) = 110 :: (shpN (ordN (ccF n pd p))).tail := by
        rcases hc with y | y | y | y | y | y
        · rw [y]; decide
        · rw [y]; decide
        · exact absurd y z
        · rw [y]; decide
        · exact absurd y z2
        · rw [y]; decide
      rw [hs, rdS_c, if_pos rfl] at hk
      refine e_number hpd h22 (fun y x r hr => ?_) (fun y r hr => ?_)
      · rw [if_neg y] at hk
        rw [show nI (7 * om) + (1 : Int32) = nI (7 * om + 1) from nI_add _ 1, nI_clamp (by omega)]
        refine ⟨vp_in_nI (by omega) (by omega), fun q25 e25 => ?_⟩
        have h25 : RR v u L sl S n pd q25 (p + 1) 0 om (upd (upd OR (7 * om) (nI (ccF n pd p))) (7 * om + 1) x) := by rw [e25]; exact hr.or
        refine ord_dead hpd hom hk rfl (fun j hj => ?_) h25
        by_cases y3 : j < 7 * om
        · exact Or.inl (by rw [upd_n (by omega), upd_n (by omega)])
        · exact Or.inr (by omega)
      · rw [if_pos y] at hk
        rw [show nI (7 * om) + (1 : Int32) = nI (7 * om + 1) from nI_add _ 1, nI_clamp (by omega)]
        refine ⟨vp_in_nI (by omega) (by omega), fun q25 e25 => ?_⟩
        have h25 : RR v u L sl S n pd q25 (numN (ccF n pd) 3 (p + 1 + 1) (ccF n pd (p + 1) - 48)).1 1 om (upd (upd OR (7 * om) (nI (ccF n pd p))) (7 * om + 1) (nI (numN (ccF n pd) 3 (p + 1 + 1) (ccF n pd (p + 1) - 48)).2)) := by rw [e25]; exact hr.or
        refine ord_well (xs := [(numN (ccF n pd) 3 (p + 1 + 1) (ccF n pd (p + 1) - 48)).2]) hpd hom hlt hk (hpre.up (by omega)) (one _) h25 (fun y1 y2 => ?_) (fun y1 => ⟨rfl, ?_⟩) (fun y1 => ⟨rfl, ?_⟩)
        · have ht : (shpN (ordN (ccF n pd p))).tail = [] := by
            rcases hc with w | w | w | w | w | w
            · exact absurd w y1
            · exact absurd w y2
            · exact absurd w z
            · rw [w]; decide
            · exact absurd w z2
            · rw [w]; decide
          rw [ht]; rfl
        · have ht : (shpN (ordN (ccF n pd p))).tail = sgS [58, 45, 47, 45, 36] := by rw [y1]; decide
          rw [ht]; rfl
        · have ht : (shpN (ordN (ccF n pd p))).tail = [42, 49, 43, 110] := by rw [y1]; decide
          rw [ht]; rfl
    · -- g
      have hs : shpN (ordN (ccF n pd p)) = [49] := by rw [z]; decide
      rw [hs, rdS_c, if_neg (by decide), if_pos rfl] at hk
      refine e_digit hpd h22 (fun y x r hr => ?_) (fun y r hr => ?_)
      · rw [if_neg y] at hk
        rw [show nI (7 * om) + (1 : Int32) = nI (7 * om + 1) from nI_add _ 1, nI_clamp (by omega)]
        refine ⟨vp_in_nI (by omega) (by omega), fun q28 e28 => ?_⟩
        have h28 : RR v u L sl S n pd q28 (p + 1) 0 om (upd (upd OR (7 * om) (nI (ccF n pd p))) (7 * om + 1) x) := by rw [e28]; exact hr.or
        refine ord_dead hpd hom hk rfl (fun j hj => ?_) h28
        by_cases y3 : j < 7 * om
        · exact Or.inl (by rw [upd_n (by omega), upd_n (by omega)])
        · exact Or.inr (by omega)
      · rw [if_pos y] at hk
        rw [show nI (7 * om) + (1 : Int32) = nI (7 * om + 1) from nI_add _ 1, nI_clamp (by omega)]
        refine ⟨vp_in_nI (by omega) (by omega), fun q28 e28 => ?_⟩
        have h28 : RR v u L sl S n pd q28 (p + 1 + 1) 1 om (upd (upd OR (7 * om) (nI (ccF n pd p))) (7 * om + 1) (nI (ccF n pd (p + 1) - 48))) := by rw [e28]; exact hr.or
        exact ord_well (xs := [ccF n pd (p + 1) - 48]) hpd hom hlt hk (hpre.up (by omega)) (one _) h28 (fun _ _ => rfl) (fun y1 => by omega) (fun y1 => by omega)
  -- no letter
  have no : ordN (ccF n pd p) = 6 → wX10_readsOrder_b54 k m (nI (7 * om)) (nI (ccF n pd p)) 0 := by
    intro h6
    have hc := hoc.mp h6
    unfold rdO at hk
    rw [if_pos h6] at hk
    unfold wX10_readsOrder_b54 wX10_readsOrder_b71 wX10_readsOrder_b72 wX10_readsOrder_b92
    rw [h.2.2.2.1]
    refine ⟨fun z => absurd z (by decide), fun _ => ⟨fun _ => ⟨nar01.1, fit01.1, fun q29 e29 => ?_⟩, fun z => absurd rfl z⟩⟩
    have h29 : RR v u L sl S n pd q29 p 0 om OR := by rw [e29]; exact h.well
    rw [h29.2.2.2.1, h29.2.1]
    refine ⟨fun _ y20 e20 q21 e21 => ?_, fun z => absurd rfl z⟩
    rw [e20, show nI p + (0 : Int32) = nI p from ixp0 p] at e21
    have h21 : RR v u L sl S n pd q21 p 0 om OR := by rw [e21]; exact h29.pos h.2.2.1
    refine ⟨vp_in_nI (by omega) (by omega), fun q22 e22 => ?_⟩
    rw [nI_clamp (by omega)] at e22
    have h22 : RR v u L sl S n pd q22 p 0 om (upd OR (7 * om) (nI (ccF n pd p))) := by rw [e22]; exact h21.or
    have E103 : nI (ccF n pd p) = (103 : Int32) ↔ ccF n pd p = 103 := E 103 (by omega)
    have E109 : nI (ccF n pd p) = (109 : Int32) ↔ ccF n pd p = 109 := E 109 (by omega)
    rw [E103, E109]
    refine ⟨fun z => ⟨fun z2 => absurd z2 (by omega), fun z2 => e_number0 hpd h22 (fun x r hr => ?_)⟩, fun z => absurd z (by omega)⟩
    rw [show nI (7 * om) + (1 : Int32) = nI (7 * om + 1) from nI_add _ 1, nI_clamp (by omega)]
    refine ⟨vp_in_nI (by omega) (by omega), fun q25 e25 => ?_⟩
    have h25 : RR v u L sl S n pd q25 p 0 om (upd (upd OR (7 * om) (nI (ccF n pd p))) (7 * om + 1) x) := by rw [e25]; exact hr.or
    refine ord_dead hpd hom hk rfl (fun j hj => ?_) h25
    by_cases y3 : j < 7 * om
    · exact Or.inl (by rw [upd_n (by omega), upd_n (by omega)])
    · exact Or.inr (by omega)
  have A102 : nI (ccF n pd p) = (102 : Int32) ↔ ccF n pd p = 102 := E 102 (by omega)
  have A99 : nI (ccF n pd p) = (99 : Int32) ↔ ccF n pd p = 99 := E 99 (by omega)
  have A103 : nI (ccF n pd p) = (103 : Int32) ↔ ccF n pd p = 103 := E 103 (by omega)
  have A100 : nI (ccF n pd p) = (100 : Int32) ↔ ccF n pd p = 100 := E 100 (by omega)
  have A109 : nI (ccF n pd p) = (109 : Int32) ↔ ccF n pd p = 109 := E 109 (by omega)
  have A120 : nI (ccF n pd p) = (120 : Int32) ↔ ccF n pd p = 120 := E 120 (by omega)
  rw [A102, A99, A103, A100, A109, A120]
  refine ⟨fun z => yes (fun y => hoc.mp y (by omega)), fun z1 => ⟨fun z => yes (fun y => hoc.mp y (by omega)), fun z2 => ⟨fun z => yes (fun y => hoc.mp y (by omega)), fun z3 => ⟨fun z => yes (fun y => hoc.mp y (by omega)), fun z4 => ⟨fun z => yes (fun y => hoc.mp y (by omega)), fun z5 => ⟨fun z => no (hoc.mpr (by omega)), fun z => yes (fun y => hoc.mp y (by omega))⟩⟩⟩⟩⟩⟩
end TM
