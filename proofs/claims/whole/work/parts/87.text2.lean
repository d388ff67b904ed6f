/-! ===== whole texts ===== -/
def NX (cc : Nat → Nat) (q : Nat) : Bool × Nat × List Nat := if cc q = 59 then rdO cc (q + 1) else (false, q, [])
def conT (e : Nat × List Nat) (T : Bool × Nat × List (Nat × List Nat)) : Bool × Nat × List (Nat × List Nat) := (T.1, T.2.1, e :: T.2.2)
def rdL (cc : Nat → Nat) (n : Nat) : Nat → Nat → Bool × Nat × List (Nat × List Nat)
  | 0, q => (false, q, [])
  | f + 1, q => if n ≤ q then (true, q, []) else if (NX cc q).1 = true then conT (cc (q + 1), (NX cc q).2.2) (rdL cc n f (NX cc q).2.1) else (false, (NX cc q).2.1, [])
def rdT (cc : Nat → Nat) (n : Nat) : Bool × Nat × List (Nat × List Nat) := if (rdO cc 0).1 = true then conT (cc 0, (rdO cc 0).2.2) (rdL cc n 41 (rdO cc 0).2.1) else (false, (rdO cc 0).2.1, [])
theorem NX_gt {cc : Nat → Nat} {q : Nat} (h : (NX cc q).1 = true) : q + 1 < (NX cc q).2.1 := by
  unfold NX at h ⊢
  by_cases c : cc q = 59
  · rw [if_pos c] at h ⊢; exact rdO_gt h
  · rw [if_neg c] at h; cases h
/-- an order that was read -/
def OKo (c : Nat) (xs : List Nat) : Prop := ordN c < 6 ∧ xs.length = cntN (shpN (ordN c)) ∧ (c = 103 → 1 ≤ xs.getD 0 0 ∧ xs.getD 0 0 ≤ 9)
theorem rdS_len {cc : Nat → Nat} : ∀ (cs : List Nat) (p : Nat) (xs : List Nat), (rdS cc cs p xs).1 = true → (rdS cc cs p xs).2.2.length = xs.length + cntN cs
  | [], p, xs, _ => rfl
  | c :: cs, p, xs, h => by
    have e : cntN (c :: cs) = (if c = 110 ∨ c = 49 then 1 else 0) + cntN cs := rfl
    rw [rdS_c] at h ⊢
    rw [e]
    by_cases c1 : c = 110
    · rw [if_pos c1] at h ⊢
      rw [if_pos (show c = 110 ∨ c = 49 from Or.inl c1)]
      by_cases c2 : 48 ≤ cc p ∧ cc p ≤ 57
      · rw [if_pos c2] at h ⊢
        rw [rdS_len cs _ _ h, List.length_append]
        show xs.length + 1 + _ = _
        omega
      · rw [if_neg c2] at h; cases h
    · rw [if_neg c1] at h ⊢
      by_cases c3 : c = 49
      · rw [if_pos c3] at h ⊢
        rw [if_pos (show c = 110 ∨ c = 49 from Or.inr c3)]
        by_cases c2 : 49 ≤ cc p ∧ cc p ≤ 57
        · rw [if_pos c2] at h ⊢
          rw [rdS_len cs _ _ h, List.length_append]
          show xs.length + 1 + _ = _
          omega
        · rw [if_neg c2] at h; cases h
      · rw [if_neg c3] at h ⊢
        rw [if_neg (show ¬ (c = 110 ∨ c = 49) from fun z => z.elim c1 c3)]
        by_cases c2 : cc p = c
        · rw [if_pos c2] at h ⊢
          rw [rdS_len cs _ _ h]; omega
        · rw [if_neg c2] at h; cases h
theorem rdO_ok {cc : Nat → Nat} {p : Nat} (h : (rdO cc p).1 = true) : OKo (cc p) (rdO cc p).2.2 := by
  unfold rdO at h ⊢
  by_cases c : ordN (cc p) = 6
  · rw [if_pos c] at h; cases h
  · rw [if_neg c] at h ⊢
    refine ⟨by have := ordN_le (cc p); omega, by rw [rdS_len _ _ _ h]; exact Nat.zero_add _, fun e => ?_⟩
    rw [e] at h ⊢
    have hs : shpN (ordN 103) = [49] := by decide
    rw [hs, rdS_c, if_neg (by decide), if_pos rfl] at h ⊢
    by_cases c2 : 49 ≤ cc (p + 1) ∧ cc (p + 1) ≤ 57
    · rw [if_pos c2]
      show 1 ≤ cc (p + 1) - 48 ∧ cc (p + 1) - 48 ≤ 9
      omega
    · rw [if_neg c2] at h; cases h
theorem OKo_l : ∀ i, i < 6 → cntN (shpN i) ≤ 6 := by decide
section T2
variable {d : qS} {n : Nat} {pd : Nat → Int32} {k : Int32 → qS → Prop}
theorem c_next {q i : Nat} {xs : List Nat} (h : CR d n pd q i xs) (hq : q ≠ 0) (hno : ∀ r : qS, (NX (ccF n pd) q).1 = false → XD r n pd → r 0 1 = nI (NX (ccF n pd) q).2.1 → (NX (ccF n pd) q).2.1 ≤ n → k 0 r)
    (hk : ∀ r : qS, (NX (ccF n pd) q).1 = true → CR r n pd (NX (ccF n pd) q).2.1 (ordN (ccF n pd (q + 1))) (NX (ccF n pd) q).2.2 → k 1 r) : wX5_readNextOrder k d := by
  have n80 := h.1.2.1
  have hqn := h.2.2.1
  unfold wX5_readNextOrder wX5_readNextOrder_b16 wX5_readNextOrder_b27 wX5_readNextOrder_b28
  unfold NX at hno hk
  rw [h.2.1]
  refine ⟨fun z => absurd z (nI_ne0 (by omega) (by omega)), fun _ => ?_⟩
  refine c_readSign (c := 59) h (by omega) (by omega) (fun y => ⟨fun _ => ⟨nar01.1, ?_⟩, fun z => absurd rfl z⟩) (fun y r hr => ⟨fun z => absurd z (by decide), fun _ => ?_⟩)
  · rw [if_neg y] at hno; exact hno d rfl h.1 h.2.1 h.2.2.1
  · rw [if_pos y] at hno hk
    refine c_order hr.1 hr.2.1 hr.2.2.1 (fun r2 q2 ys he hD h1 hn => ⟨fun _ => ⟨nar01.1, ?_⟩, fun z => absurd rfl z⟩) (fun r2 q2 ys he hr2 => ⟨fun z => absurd z (by decide), fun _ => ⟨nar01.2, ?_⟩⟩)
    · rw [he] at hno; exact hno r2 rfl hD h1 hn
    · rw [he] at hk; exact hk r2 rfl hr2
theorem c_ff_0 {nf : Nat} {x : Int32} (hn : 0 < nf) (h : k (d 0 1) d) : wX5_firstFault_b11 k nf d 0 x := by
  obtain ⟨nf, rfl⟩ : ∃ m, nf = m + 1 := ⟨nf - 1, by omega⟩
  unfold wX5_firstFault_b11 wX5_firstFault_b43 wX5_firstFault_b56
  exact ⟨fun _ => ⟨fun _ => h, fun z => absurd rfl z⟩, fun _ => ⟨fun _ => ⟨fun _ => h, fun z => absurd rfl z⟩, fun z => absurd rfl z⟩⟩
theorem c_ff_l : ∀ (f q om nf i : Nat) (xs : List Nat) (d : qS), om + f = 42 → f + 1 < nf → CR d n pd q i xs → q ≠ 0 → 2 * om ≤ q + 1 → (∀ r : qS, (rdL (ccF n pd) n f q).1 = false → XD r n pd → k (nI (rdL (ccF n pd) n f q).2.1) r) → (∀ r : qS, (rdL (ccF n pd) n f q).1 = true → XD r n pd → k (-6) r) → wX5_firstFault_b11 k nf d 1 (nI om) := by
  intro f
  induction f with
  | zero =>
    intro q om nf i xs d ho hn h hq h2 hno hk
    have := h.1.2.1
    have := h.2.2.1
    omega
  | succ f ih =>
    intro q om nf i xs d ho hn h hq h2 hno hk
    obtain ⟨nf, rfl⟩ : ∃ m, nf = m + 1 := ⟨nf - 1, by omega⟩
    have n80 := h.1.2.1
    have hqn := h.2.2.1
    unfold rdL at hno hk
    unfold wX5_firstFault_b11 wX5_firstFault_b43 wX5_firstFault_b56
    rw [h.1.1, h.2.1]
    refine pk_le 80 om (fun c => by omega) (fun _ => ⟨fun z => absurd z (by decide), fun _ => ?_⟩) rfl rfl (by omega) (by omega)
    refine pk_le n q (fun c => ⟨fun z => absurd z (by decide), fun _ => ?_⟩) (fun c => ?_) rfl rfl (by omega) (by omega)
    · rw [if_pos c] at hk; exact hk d rfl h.1
    · rw [if_neg (by omega)] at hno hk
      refine c_next h hq (fun r e hD h1 hl => ?_) (fun r e hr => ?_)
      · rw [if_neg (by rw [e]; decide)] at hno
        intro y3 e3
        exact c_ff_0 (by omega) (by rw [h1]; exact hno r rfl hD)
      · rw [if_pos e] at hno hk
        intro y3 e3
        rw [e3, nI_1]
        have hg := NX_gt e
        exact ih _ (om + 1) nf _ _ r (by omega) (by omega) hr (by omega) (by omega) hno hk
/-- the fault of the pad, as the class finds it -/
theorem c_ff (hD : XD d n pd) (hno : ∀ r : qS, (rdT (ccF n pd) n).1 = false → XD r n pd → k (nI (rdT (ccF n pd) n).2.1) r) (hk : ∀ r : qS, (rdT (ccF n pd) n).1 = true → XD r n pd → k (-6) r) : wX5_firstFault k d := by
  unfold wX5_firstFault wX5_startReading
  intro d1 e1
  have hD1 : XD d1 n pd := by rw [e1]; exact hD.up (by decide) (by omega)
  have h1 : d1 0 1 = nI 0 := by rw [e1, up2_A, upA_s, upd_s]; rfl
  unfold rdT at hno hk
  refine c_order hD1 h1 (Nat.zero_le n) (fun r q ys he hr h2 hn => ⟨1, c_ff_0 (by omega) ?_⟩) (fun r q ys he hr => ⟨44, ?_⟩)
  · have e1 : (rdO (ccF n pd) 0).1 = false := by rw [he]
    have e2 : (rdO (ccF n pd) 0).2.1 = q := by rw [he]
    rw [if_neg (by rw [e1]; decide), e2] at hno
    rw [h2]; exact hno r rfl hr
  · have e1 : (rdO (ccF n pd) 0).1 = true := by rw [he]
    have e2 : (rdO (ccF n pd) 0).2.1 = q := by rw [he]
    have hg := rdO_gt e1
    rw [e2] at hg
    rw [if_pos e1, e2] at hno hk
    exact c_ff_l 41 q 1 44 _ _ r (by omega) (by omega) hr (by omega) (by omega) hno hk
end T2
section T3
variable {v : vS} {u : Nat} {L : Nat → vS} {sl : Nat → Int32} {S : Nat → vS} {n : Nat} {pd : Nat → Int32} {m : qS}
/-- the orders as they lie in the reference's row, from the om-th on -/
def rowOK (OR : Nat → Int32) : Nat → List (Nat × List Nat) → Prop
  | _, [] => True
  | om, e :: l => (OR (7 * om) = nI e.1 ∧ ∀ j, j < e.2.length → OR (7 * om + 1 + j) = nI (e.2.getD j 0)) ∧ rowOK OR (om + 1) l
theorem e_rd_0 {k : Int32 → qS → Prop} {q om nf : Nat} {OR : Nat → Int32} (hn : 0 < nf) (h : RR v u L sl S n pd m q 0 om OR) (hk : k (nI q) m) : wX10_reads_b19 k nf m := by
  obtain ⟨nf, rfl⟩ : ∃ z, nf = z + 1 := ⟨nf - 1, by omega⟩
  unfold wX10_reads_b19 wX10_reads_b57 wX10_reads_b73
  rw [h.2.2.2.1, h.2.1]
  exact ⟨fun _ => ⟨fun _ => hk, fun z => absurd rfl z⟩, fun z => absurd rfl z⟩
theorem e_rd_l {k : Int32 → qS → Prop} (hpd : padOk n pd) (n80 : n ≤ 80) : ∀ (f q om nf : Nat) (m : qS) (OR : Nat → Int32), om + f = 42 → f + 1 < nf → RR v u L sl S n pd m q 1 om OR → 2 * om ≤ q + 1 →
    (∀ r OR2 om2, (rdL (ccF n pd) n f q).1 = false → RR v u L sl S n pd r (rdL (ccF n pd) n f q).2.1 0 om2 OR2 → k (nI (rdL (ccF n pd) n f q).2.1) r) →
    (∀ r OR2, (rdL (ccF n pd) n f q).1 = true → RR v u L sl S n pd r (rdL (ccF n pd) n f q).2.1 1 (om + (rdL (ccF n pd) n f q).2.2.length) OR2 → (∀ j, j < 7 * om → OR2 j = OR j) → rowOK OR2 om (rdL (ccF n pd) n f q).2.2 → k (-6) r) → wX10_reads_b19 k nf m := by
  intro f
  induction f with
  | zero =>
    intro q om nf m OR ho hn h h2 hno hk
    have := h.2.2.1
    omega
  | succ f ih =>
    intro q om nf m OR ho hn h h2 hno hk
    obtain ⟨nf, rfl⟩ : ∃ z, nf = z + 1 := ⟨nf - 1, by omega⟩
    have hqn := h.2.2.1
    unfold rdL at hno hk
    unfold wX10_reads_b19 wX10_reads_b57 wX10_reads_b73
    rw [h.2.2.2.1, h.2.1, h.1.2.2.2.2.2.2.1]
    refine ⟨fun z => absurd z (by decide), fun _ => ?_⟩
    refine pk_le n q (fun c => ⟨fun z => absurd z (by decide), fun _ => ?_⟩) (fun c => ?_) rfl rfl (by omega) (by omega)
    · rw [if_pos c] at hk; exact hk m OR rfl h (fun _ _ => rfl) trivial
    · rw [if_neg (by omega)] at hno hk
      have hom : om ≤ 40 := by omega
      refine e_wants hpd (c := 59) (by omega) (by omega) h (fun y r hr => ?_) (fun y r hr => ?_)
      · have e : NX (ccF n pd) q = (false, q, []) := by unfold NX; rw [if_neg y]
        have e1 : (NX (ccF n pd) q).1 = false := by rw [e]
        have e2 : (NX (ccF n pd) q).2.1 = q := by rw [e]
        rw [if_neg (by rw [e1]; decide), e2] at hno
        rw [hr.2.2.2.1]
        exact ⟨fun _ => e_rd_0 (by omega) hr (hno r OR om rfl hr), fun z => absurd rfl z⟩
      · have e : NX (ccF n pd) q = rdO (ccF n pd) (q + 1) := by unfold NX; rw [if_pos y]
        rw [e] at hno hk
        rw [hr.2.2.2.1]
        refine ⟨fun z => absurd z (by decide), fun _ => e_order hpd hom hr ⟨fun e1 r2 OR2 h3 hr2 => ?_, fun e1 r2 OR2 h3 h4 h5 hr2 => ?_⟩⟩
        · rw [if_neg (by rw [e1]; decide)] at hno
          exact e_rd_0 (by omega) hr2 (hno r2 OR2 om rfl hr2)
        · rw [if_pos e1] at hno hk
          have hg := rdO_gt e1
          have ho2 := rdO_ok e1
          have hl6 := OKo_l _ ho2.1
          refine ih _ (om + 1) nf r2 OR2 (by omega) (by omega) hr2 (by omega) hno (fun r3 OR3 e3 hr3 h6 h7 => hk r3 OR3 e3 ?_ (fun j hj => by rw [h6 j (by omega)]; exact h3 j hj) ⟨⟨?_, fun j hj => ?_⟩, h7⟩)
          · rw [show om + (conT (ccF n pd (q + 1), (rdO (ccF n pd) (q + 1)).2.2) (rdL (ccF n pd) n f (rdO (ccF n pd) (q + 1)).2.1)).2.2.length = om + 1 + (rdL (ccF n pd) n f (rdO (ccF n pd) (q + 1)).2.1).2.2.length from by
              show om + ((rdL (ccF n pd) n f (rdO (ccF n pd) (q + 1)).2.1).2.2.length + 1) = _
              omega]
            exact hr3
          · rw [h6 _ (by omega)]; exact h4
          · have hj : j < (rdO (ccF n pd) (q + 1)).2.2.length := hj
            have := ho2.2.1
            rw [h6 _ (by omega)]; exact h5 j hj
/-- the whole text, as the reference reads it -/
theorem e_reads {k : Int32 → qS → Prop} (hpd : padOk n pd) (h : MM m v u L sl S n pd) (hno : ∀ r OR om, (rdT (ccF n pd) n).1 = false → RR v u L sl S n pd r (rdT (ccF n pd) n).2.1 0 om OR → k (nI (rdT (ccF n pd) n).2.1) r)
    (hk : ∀ r OR, (rdT (ccF n pd) n).1 = true → RR v u L sl S n pd r (rdT (ccF n pd) n).2.1 1 (rdT (ccF n pd) n).2.2.length OR → rowOK OR 0 (rdT (ccF n pd) n).2.2 → k (-6) r) : wX10_reads k m := by
  have n80 := h.2.2.2.2.2.2.2.1
  unfold wX10_reads
  intro q5 e5 q6 e6 q7 e7
  have h5 : MM q5 v u L sl S n pd := by rw [e5]; exact h.at 11 _ (by decide) (by decide)
  have h6 : MM q6 v u L sl S n pd := by rw [e6]; exact h5.at 12 _ (by decide) (by decide)
  have h7 : MM q7 v u L sl S n pd := by rw [e7]; exact h6.at 14 _ (by decide) (by decide)
  have hR : RR v u L sl S n pd q7 0 1 0 (q7 13) := ⟨h7, by rw [e7, up2_A, upA_s, upd_n (by decide), e6, up2_A, upA_s, upd_n (by decide), e5, up2_A, upA_s, upd_s]; rfl, Nat.zero_le n, by rw [e7, up2_A, upA_s, upd_n (by decide), e6, up2_A, upA_s, upd_s], by rw [e7, up2_A, upA_s, upd_s]; rfl, rfl⟩
  unfold rdT at hno hk
  refine e_order hpd (by omega) hR ⟨fun e1 r2 OR2 h3 hr2 => ⟨1, ?_⟩, fun e1 r2 OR2 h3 h4 h8 hr2 => ⟨44, ?_⟩⟩
  · rw [if_neg (by rw [e1]; decide)] at hno
    exact e_rd_0 (by omega) hr2 (hno r2 OR2 0 rfl hr2)
  · rw [if_pos e1] at hno hk
    have hg := rdO_gt e1
    have ho2 := rdO_ok e1
    have hl6 := OKo_l _ ho2.1
    refine e_rd_l hpd n80 41 _ (0 + 1) 44 r2 OR2 (by omega) (by omega) hr2 (by omega) hno (fun r3 OR3 e3 hr3 h6 h7 => hk r3 OR3 e3 ?_ ⟨⟨?_, fun j hj => ?_⟩, h7⟩)
    · rw [show (conT (ccF n pd 0, (rdO (ccF n pd) 0).2.2) (rdL (ccF n pd) n 41 (rdO (ccF n pd) 0).2.1)).2.2.length = 0 + 1 + (rdL (ccF n pd) n 41 (rdO (ccF n pd) 0).2.1).2.2.length from by
        show (rdL (ccF n pd) n 41 (rdO (ccF n pd) 0).2.1).2.2.length + 1 = _
        omega]
      exact hr3
    · rw [h6 _ (by omega)]; exact h4
    · have hj : j < (rdO (ccF n pd) 0).2.2.length := hj
      have := ho2.2.1
      rw [h6 _ (by omega)]; exact h8 j hj
end T3
theorem XD.pad {d : qS} {n : Nat} {pd : Nat → Int32} (h : XD d n pd) : padOk n pd := fun j hj => (h.2.2 j hj).2
theorem j_fault {q o d tq : qS} {zs : Nat → qS} {m : qS} (h : JJ q o d zs m) : wX9_fault (fun r q o d tq zs => wX10_fault (fun r2 m => r = r2 ∧ JJ q o d zs m) m) q o d tq zs := by
  obtain ⟨v, u, L, sl, S, n, pd, ⟨hq, hH, hS, hD⟩, hM⟩ := h
  unfold wX9_fault
  have R : ∀ (r : Int32) (d2 : qS), XD d2 n pd → ((rdT (ccF n pd) n).1 = false → r = nI (rdT (ccF n pd) n).2.1) → ((rdT (ccF n pd) n).1 = true → r = -6) → wX10_fault (fun r2 m => r = r2 ∧ JJ q o d2 zs m) m := by
    intro r d2 hD2 e0 e1
    unfold wX10_fault
    intro q1 eq1
    have h1 : MM q1 v u L sl S n pd := by rw [eq1]; exact hM.th 0
    exact e_reads hD.pad h1 (fun r2 OR om e hr => ⟨e0 e, v, u, L, sl, S, n, pd, ⟨hq, hH, hS, hD2⟩, hr.1⟩) (fun r2 OR e hr _ => ⟨e1 e, v, u, L, sl, S, n, pd, ⟨hq, hH, hS, hD2⟩, hr.1⟩)
  exact c_ff hD (fun r e hr => R _ r hr (fun _ => rfl) (fun z => by rw [e] at z; cases z)) (fun r e hr => R _ r hr (fun z => by rw [e] at z; cases z) (fun _ => rfl))
