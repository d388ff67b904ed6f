theorem e_recs2 {k : qS → Prop} {m : qS} {v : vS} {u : Nat} {L : Nat → vS} {sl : Nat → Int32} {S : Nat → vS} {n : Nat} {pd : Nat → Int32} (h : MM m v u L sl S n pd) (hk : ∀ r : qS, MM r v (recU u) (recL u L v) sl S n pd → r 13 = m 13 → r 0 14 = m 0 14 → k r) : wX10_records k m := by
  obtain ⟨a1, a2, a3, a4, a5, a6, a7, a8, a9⟩ := h
  refine e_records a3 a2 (hk _ ?_ (by rw [up2_A, upA_n (by decide), upA_n (by decide)]) (by rw [up2_A, upA_s, upd_n (by decide), upA_n (by decide)]))
  refine ⟨?_, ?_, ?_, ?_, ?_, ?_, ?_, a8, ?_⟩
  · rw [up2_A, upA_n (by decide), upA_n (by decide)]; exact a1
  · rw [up2_A, upA_s, upd_s]; rfl
  · unfold recU; split <;> omega
  · intro i hi j hj
    rw [up2_A, upA_n (by decide), upA_s]
    unfold recU at hi
    unfold recF recL
    rw [a1]
    by_cases c : u = 6
    · rw [if_pos c] at hi
      rw [if_pos c, if_pos c]
      by_cases c5 : i < 5
      · rw [if_neg (by omega), if_pos (by omega), if_pos c5, ← a4 (i + 1) (by omega) j hj]
        exact congrArg (m 3) (by omega)
      · rw [if_pos (by omega), if_neg c5]
        exact congrArg v (by omega)
    · rw [if_neg c] at hi
      rw [if_neg c, if_neg c]
      by_cases ci : i = u
      · rw [if_pos (by omega), if_pos ci]
        exact congrArg v (by omega)
      · rw [if_neg (by omega), if_neg ci]
        exact a4 i (by omega) j hj
  · rw [up2_A, upA_n (by decide), upA_n (by decide)]; exact a5
  · rw [up2_A, upA_n (by decide), upA_n (by decide)]; exact a6
  · rw [up2_A, upA_s, upd_n (by decide), upA_n (by decide)]; exact a7
  · rw [up2_A, upA_n (by decide), upA_n (by decide)]; exact a9
/-! ===== orders carried out ===== -/
abbrev nX (xs : List Nat) (j : Nat) : Int32 := nI (xs.getD j 0)
/-- what an order is refused with, 0 if it isn't -/
def rfO (v : vS) (c : Nat) (xs : List Nat) : Int32 := if c = 102 then refFace v (nX xs 0) (nX xs 1) (nX xs 2) else if c = 99 then refCon v (nX xs 0) (nX xs 1) (nX xs 2) (nX xs 3) (nX xs 4) (nX xs 5) else if c = 100 then refPass v (nX xs 0) else if c = 120 then (if isIn (nX xs 0) 0 (v 8 - 1) then 0 else -1) else 0
def doO (v : vS) (c : Nat) (xs : List Nat) : vS := if c = 102 then faceF v (nn (v 7)) (nX xs 0) (nX xs 1) (nX xs 2) else if c = 99 then conF v (nn (v 8)) (nX xs 0) (nX xs 1) (nX xs 2) (nX xs 3) (nX xs 4) (nX xs 5) else if c = 100 then daysF (nn (nX xs 0)) v else if c = 120 then dropF v (nn (nX xs 0)) else if c = 103 then upd v 3 (nX xs 0) else upd v 10 0
def exL : List (Nat × List Nat) → vS → Nat × vS
  | [], v => (0, v)
  | e :: l, v => if rfO v e.1 e.2 = 0 then ((exL l (doO v e.1 e.2)).1 + 1, (exL l (doO v e.1 e.2)).2) else (0, v)
/-- what holds of the numbers ahead of each order -/
def exG : List (Nat × List Nat) → vS → Prop
  | [], _ => True
  | e :: l, v => GI v ∧ (rfO v e.1 e.2 = 0 → exG l (doO v e.1 e.2))
theorem ord_let : ∀ c : Nat, c < 127 → (ordN c = 0 → c = 102) ∧ (ordN c = 1 → c = 99) ∧ (ordN c = 2 → c = 103) ∧ (ordN c = 3 → c = 100) ∧ (ordN c = 4 → c = 109) ∧ (ordN c = 5 → c = 120) := by decide
section TO
variable {q o d tq : qS} {zs : Nat → qS} {v : vS} {n : Nat} {pd : Nat → Int32} {k : Int32 → qS → qS → qS → qS → (Nat → qS) → Prop}
theorem gap_ok {v : vS} {x : Nat} (h1 : 1 ≤ x) (h9 : x ≤ 9) : refSet v 3 (nI x) = 0 := by
  unfold refSet
  rw [if_neg (fun z => z (Or.inr (Or.inr (Or.inr (Or.inl ⟨rfl, isIn_nI (a := 1) (b := 9) (by omega) (by omega) h1 h9⟩))))), if_neg (fun z => absurd z.1 (by decide))]
theorem c_obey {c pl : Nat} {xs : List Nat} (hc : c < 127) (hG : RG q v) (hR : CR d n pd pl (ordN c) xs) (hO : OKo c xs) (hr : rfO v c xs ≠ 0 → ∀ x : Int32, x < 0 → k x q o d tq zs)
    (hk : rfO v c xs = 0 → ∀ (x : Int32) (q2 : qS), ¬ x < 0 → RG q2 (doO v c xs) → k x q2 o d tq zs) : wX9_obey k q o d tq zs := by
  obtain ⟨T, F, C, hrs, H, hQ, hI, h6, hh, h2, H1, H24, hz⟩ := hG
  obtain ⟨-, -, -, hd2, -, -, hx⟩ := hR
  obtain ⟨ho6, hlen, hgap⟩ := hO
  have h7 := hI.1.2.2.1
  have hF8 := hI.1.2.2.2.1
  have h8 := hI.2.2.2.1.1
  have hC12 := hI.2.2.2.1.2.1
  have n7 : nn (v 7) = F := by rw [h7]; exact nI_clamp (by omega)
  have n8 : nn (v 8) = C := by rw [h8]; exact nI_clamp (by omega)
  have E : ∀ j : Nat, j < 6 → (nI (ordN c) = nI j ↔ ordN c = j) := fun j hj => nI_eq (by omega) (by omega)
  obtain ⟨l0, l1, l2, l3, l4, l5⟩ := ord_let c hc
  unfold wX9_obey
  rw [hd2]
  refine ⟨fun z => ?_, fun z => ?_, fun z => ?_, fun z => ?_, fun z => ?_, fun z => ?_, fun z0 z1 z2 z3 z4 z5 => ?_⟩
  · have z := (E 0 (by omega)).mp z
    obtain rfl := l0 z
    have hl : xs.length = 3 := hlen
    rw [hx 0 (by omega), hx 1 (by omega), hx 2 (by omega)]
    have hr : refFace v (nX xs 0) (nX xs 1) (nX xs 2) ≠ 0 → ∀ x : Int32, x < 0 → k x q o d tq zs := hr
    have hk : refFace v (nX xs 0) (nX xs 1) (nX xs 2) = 0 → ∀ (x : Int32) (q2 : qS), ¬ x < 0 → RG q2 (faceF v (nn (v 7)) (nX xs 0) (nX xs 1) (nX xs 2)) → k x q2 o d tq zs := hk
    rw [n7] at hk
    refine c_addFace hQ hI (fun y => hr y _ ?_) (fun y hF r hR => hk y _ r (nI_pos (by omega)) ⟨T, F + 1, C, hrs, H, hR, Inv_face hI hF y, ?_, hh, ?_, H1, H24, upd_hi (by omega) (upd_hi (by omega) (upd_hi (by omega) (upd_hi (by omega) (upd_hi (by omega) hz))))⟩)
    · unfold refFace at y ⊢
      split at y
      · rename_i w; rw [if_pos w]; decide
      · rename_i w; rw [if_neg w]
        split at y
        · rename_i w2; rw [if_pos w2]; decide
        · exact absurd rfl y
    · unfold faceF; rw [upd_n (by omega), upd_n (by omega), upd_n (by omega), upd_n (by omega), upd_n (by omega)]; exact h6
    · unfold faceF; rw [upd_n (by omega), upd_n (by omega), upd_n (by omega), upd_n (by omega), upd_n (by omega)]; exact h2
  · have z := (E 1 (by omega)).mp z
    obtain rfl := l1 z
    have hl : xs.length = 6 := hlen
    rw [hx 0 (by omega), hx 1 (by omega), hx 2 (by omega), hx 3 (by omega), hx 4 (by omega), hx 5 (by omega)]
    have hr : refCon v (nX xs 0) (nX xs 1) (nX xs 2) (nX xs 3) (nX xs 4) (nX xs 5) ≠ 0 → ∀ x : Int32, x < 0 → k x q o d tq zs := hr
    have hk : refCon v (nX xs 0) (nX xs 1) (nX xs 2) (nX xs 3) (nX xs 4) (nX xs 5) = 0 → ∀ (x : Int32) (q2 : qS), ¬ x < 0 → RG q2 (conF v (nn (v 8)) (nX xs 0) (nX xs 1) (nX xs 2) (nX xs 3) (nX xs 4) (nX xs 5)) → k x q2 o d tq zs := hk
    rw [n8] at hk
    refine c_addContract hQ hI (fun y => hr y _ ?_) (fun y hC r hR => hk y _ r (nI_pos (by omega)) ⟨T, F, C + 1, hrs, H, hR, Inv_con hI hC y, ?_, hh, ?_, H1, H24, upd_hi (by omega) (upd_hi (by omega) (upd_hi (by omega) (upd_hi (by omega) (upd_hi (by omega) (upd_hi (by omega) (upd_hi (by omega) hz))))))⟩)
    · unfold refCon at y ⊢
      split at y
      · rename_i w; rw [if_pos w]; decide
      · rename_i w; rw [if_neg w]
        split at y
        · rename_i w2; rw [if_pos w2]; decide
        · exact absurd rfl y
    · unfold conF; rw [upd_n (by omega), upd_n (by omega), upd_n (by omega), upd_n (by omega), upd_n (by omega), upd_n (by omega), upd_n (by omega)]; exact h6
    · unfold conF; rw [upd_n (by omega), upd_n (by omega), upd_n (by omega), upd_n (by omega), upd_n (by omega), upd_n (by omega), upd_n (by omega)]; exact h2
  · have z := (E 2 (by omega)).mp z
    obtain rfl := l2 z
    have hl : xs.length = 1 := hlen
    rw [hx 0 (by omega)]
    have hg := hgap rfl
    have g0 := gap_ok (v := v) hg.1 hg.2
    have hk : rfO v 103 xs = 0 → ∀ (x : Int32) (q2 : qS), ¬ x < 0 → RG q2 (upd v 3 (nX xs 0)) → k x q2 o d tq zs := hk
    refine c_changeSetting hQ hI (fun y => absurd g0 y) (fun y i hi es r hR => ?_)
    have e3 : i = 3 := ((nI_eq (a := 3) (b := i) (by omega) (by omega)).mp es).symm
    subst e3
    obtain ⟨T2, H2, i1, i2, i3, i4⟩ := Inv_set hI y hi es
    exact hk rfl _ r (set_pos hI hi) ⟨T2, F, C, hrs, H2, hR, i1, by rw [upd_n (by omega)]; exact h6, hh, i2, i3, i4, upd_hi (by omega) hz⟩
  · have z := (E 3 (by omega)).mp z
    obtain rfl := l3 z
    have hl : xs.length = 1 := hlen
    rw [hx 0 (by omega)]
    have hr : refPass v (nX xs 0) ≠ 0 → ∀ x : Int32, x < 0 → k x q o d tq zs := hr
    have hk : refPass v (nX xs 0) = 0 → ∀ (x : Int32) (q2 : qS), ¬ x < 0 → RG q2 (daysF (nn (nX xs 0)) v) → k x q2 o d tq zs := hk
    refine c_passDays hQ hI h6 hh h2 H24 (fun y => hr y _ ?_) (fun c D D1 D30 eD r C2 N2 hR hI2 => ?_)
    · unfold refPass at y ⊢
      split at y
      · rename_i w; rw [if_pos w]; decide
      · rename_i w; rw [if_neg w]
        split at y
        · rename_i w2; rw [if_pos w2]; decide
        · exact absurd rfl y
    · have hHD : H * D ≤ 24 * 30 := Nat.mul_le_mul H24 D30
      have e29 : 29 * H * D = 29 * (H * D) := Nat.mul_assoc _ _ _
      have hN : 29 * hrs + 29 * H * D ≤ 500000 := by omega
      obtain ⟨C3, c1, c2, c3, c4⟩ := Inv.days (T := T) (F := F) H24 D v C (29 * hrs) hI h2 hN
      obtain ⟨C4, e, p, f1, f2, f3, f4, f5⟩ := days_gain (T := T) (F := F) H24 D v C (29 * hrs) hI h2 hN
      have hle : hrs + H * D ≤ 9999 := by
        unfold refPass at c
        split at c
        · exact absurd c (by decide)
        · split at c
          · exact absurd c (by decide)
          · rename_i z
            rw [Decidable.not_not, h6, h2, eD, pk_mul, nI_add, show (9999 : Int32) = nI 9999 from rfl, nI_leI (by rw [Nat.mul_comm]; omega) (by omega), Nat.mul_comm] at z
            exact z
      have hIG : Inv (daysF D v) T F C2 (29 * (hrs + H * D)) := by
        have hc : C2 = C3 := by
          have a1 := hI2.2.2.2.1.1
          rw [c2.2.2.2.1.1] at a1
          have b1 := hI2.2.2.2.1.2.1
          have b2 := c2.2.2.2.1.2.1
          exact ((nI_eq (by omega) (by omega)).mp a1).symm
        rw [hc, show 29 * (hrs + H * D) = 29 * hrs + 29 * H * D from by omega]
        exact c2
      have hGd : RG r (daysF D v) := ⟨T, F, C2, hrs + H * D, H, hR, hIG, by rw [c4, h6, nI_add], hle, by rw [c3 2 (by omega)]; exact h2, H1, H24, fun j hj => by rw [days_hi H24 D v C _ hI h2 hN j hj]; exact hz j hj⟩
      have eD2 : nn (nX xs 0) = D := by rw [show nX xs 0 = nI D from eD]; exact nI_clamp (by omega)
      rw [eD2] at hk
      refine hk c _ r ?_ hGd
      rw [f3, gain_sub]; exact nI_pos (by omega)
  · have z := (E 4 (by omega)).mp z
    obtain rfl := l4 z
    have hk : rfO v 109 xs = 0 → ∀ (x : Int32) (q2 : qS), ¬ x < 0 → RG q2 (upd v 10 0) → k x q2 o d tq zs := hk
    refine c_mend hQ hF8 hC12 (fun r hR => hk rfl _ r ?_ ⟨T, F, C, hrs, H, hR, Inv_mend hI, by rw [upd_n (by omega)]; exact h6, hh, by rw [upd_n (by omega)]; exact h2, H1, H24, upd_hi (by omega) hz⟩)
    obtain ⟨w, w1, w2⟩ := hI.2.2.1.1
    rw [w1]; exact nI_pos (by omega)
  · have z := (E 5 (by omega)).mp z
    obtain rfl := l5 z
    have hl : xs.length = 1 := hlen
    rw [hx 0 (by omega)]
    have hr : (if isIn (nX xs 0) 0 (v 8 - 1) then (0 : Int32) else -1) ≠ 0 → ∀ x : Int32, x < 0 → k x q o d tq zs := hr
    have hk : (if isIn (nX xs 0) 0 (v 8 - 1) then (0 : Int32) else -1) = 0 → ∀ (x : Int32) (q2 : qS), ¬ x < 0 → RG q2 (dropF v (nn (nX xs 0))) → k x q2 o d tq zs := hk
    rw [h8] at hr hk
    by_cases ex : isIn (nX xs 0) 0 (nI C - 1)
    · rw [if_pos ex] at hk
      obtain ⟨j, hj, ej⟩ := (isIn_n (by omega)).mp ex
      have ej2 : nn (nX xs 0) = j := by rw [ej]; exact nI_clamp (by omega)
      rw [ej2] at hk
      rw [show nI (xs.getD 0 0) = nI j from ej]
      obtain ⟨C, rfl⟩ : ∃ m, C = m + 1 := ⟨C - 1, by omega⟩
      refine c_dropOne hQ hI (by omega) (fun r hR => hk rfl _ r (nI_pos (by omega)) ⟨T, F, C, hrs, H, hR, hI.drop (by omega), by rw [drop_lo (C := C + 1) (by omega) h8 hC12 (by omega) (by omega)]; exact h6, hh, by rw [drop_lo (C := C + 1) (by omega) h8 hC12 (by omega) (by omega)]; exact h2, H1, H24, fun i hi => by rw [drop_hi (C := C + 1) h8 (by omega) hC12 hj hi]; exact hz i hi⟩)
    · rw [if_neg ex] at hr
      exact c_dropNone (by rw [hQ.2.1.2.2.1]; exact h8) hC12 (fun y => ex ((isIn_n (by omega)).mpr y)) (hr (by decide) _ (by decide))
  · have y0 : ordN c ≠ 0 := fun z => z0 ((E 0 (by omega)).mpr z)
    have y1 : ordN c ≠ 1 := fun z => z1 ((E 1 (by omega)).mpr z)
    have y2 : ordN c ≠ 2 := fun z => z2 ((E 2 (by omega)).mpr z)
    have y3 : ordN c ≠ 3 := fun z => z3 ((E 3 (by omega)).mpr z)
    have y4 : ordN c ≠ 4 := fun z => z4 ((E 4 (by omega)).mpr z)
    have y5 : ordN c ≠ 5 := fun z => z5 ((E 5 (by omega)).mpr z)
    omega
/-- an order that was read is carried out, and the loop goes on -/
theorem c_ex_s {c pl dn nf : Nat} {xs : List Nat} {l : List (Nat × List Nat)} (hc : c < 127) (hG : RG q v) (hR : CR d n pd pl (ordN c) xs) (hO : OKo c xs)
    (hend : ∀ q2 d2 : qS, RG q2 (exL ((c, xs) :: l) v).2 → XD d2 n pd → exG ((c, xs) :: l) v → wX9_carryOut_b64 k q2 o d2 tq zs (nI (dn + (exL ((c, xs) :: l) v).1)))
    (hgo : ∀ q2 : qS, RG q2 (doO v c xs) → (∀ q3 d3 : qS, RG q3 (exL l (doO v c xs)).2 → XD d3 n pd → exG l (doO v c xs) → wX9_carryOut_b64 k q3 o d3 tq zs (nI (dn + 1 + (exL l (doO v c xs)).1))) → wX9_carryOut_b35 k nf q2 o d tq zs (nI (dn + 1))) :
    wX9_obey (fun (r10 : Int32) (q11 : qS) (o12 : qS) (d13 : qS) (tq14 : qS) (zs15 : (Nat → qS)) => (r10 < 0 → (wX9_carryOut_b64 k q11 o12 d13 tq14 zs15 (nI dn))) ∧ (¬ r10 < 0 → (∀ y16 : Int32, y16 = nI dn + (1 : Int32) → (wX9_carryOut_b35 k nf q11 o12 d13 tq14 zs15 y16)))) q o d tq zs := by
  refine c_obey hc hG hR hO (fun z x hx => ⟨fun _ => ?_, fun y => absurd hx y⟩) (fun z x q2 hx hG2 => ⟨fun y => absurd y hx, fun _ y16 e16 => ?_⟩)
  · have e : exL ((c, xs) :: l) v = (0, v) := by
      show (if rfO v c xs = 0 then _ else _) = _
      rw [if_neg z]
    have K := hend q d (by rw [e]; exact hG) hR.1 ⟨hG.gi, fun y => absurd y z⟩
    rw [e] at K
    exact K
  · rw [e16, nI_1]
    have e : exL ((c, xs) :: l) v = ((exL l (doO v c xs)).1 + 1, (exL l (doO v c xs)).2) := by
      show (if rfO v c xs = 0 then _ else _) = _
      rw [if_pos z]
    refine hgo q2 hG2 (fun q3 d3 h3 hd3 hg3 => ?_)
    have K := hend q3 d3 (by rw [e]; exact h3) hd3 ⟨hG.gi, fun _ => hg3⟩
    rw [e, show dn + ((exL l (doO v c xs)).1 + 1, (exL l (doO v c xs)).2).1 = dn + 1 + (exL l (doO v c xs)).1 from by show dn + ((exL l (doO v c xs)).1 + 1) = _; omega] at K
    exact K
theorem c_ex_l : ∀ (f pl dn nf i : Nat) (xs : List Nat) (q d : qS) (v : vS), dn + f = 42 → f < nf → RG q v → CR d n pd pl i xs → pl ≠ 0 → 2 * dn ≤ pl + 1 → (rdL (ccF n pd) n f pl).1 = true →
    (∀ q2 d2 : qS, RG q2 (exL (rdL (ccF n pd) n f pl).2.2 v).2 → XD d2 n pd → exG (rdL (ccF n pd) n f pl).2.2 v → wX9_carryOut_b64 k q2 o d2 tq zs (nI (dn + (exL (rdL (ccF n pd) n f pl).2.2 v).1))) → wX9_carryOut_b35 k nf q o d tq zs (nI dn) := by
  intro f
  induction f with
  | zero =>
    intro pl dn nf i xs q d v ho hn hG hR hp h2 hT hend
    have := hR.1.2.1
    have := hR.2.2.1
    omega
  | succ f ih =>
    intro pl dn nf i xs q d v ho hn hG hR hp h2 hT hend
    obtain ⟨nf, rfl⟩ : ∃ m, nf = m + 1 := ⟨nf - 1, by omega⟩
    have n80 := hR.1.2.1
    have hpn := hR.2.2.1
    unfold rdL at hT hend
    unfold wX9_carryOut_b35
    refine pk_le 80 dn (fun c => by omega) (fun _ => ?_) rfl rfl (by omega) (by omega)
    refine c_next hR hp (fun r e hD h1 hl => ⟨fun _ => ?_, fun z => absurd rfl z⟩) (fun r e hr => ⟨fun z => absurd z (by decide), fun _ => ?_⟩)
    · by_cases c : n ≤ pl
      · rw [if_pos c] at hend
        exact hend q r hG hD trivial
      · rw [if_neg c, if_neg (by rw [e]; decide)] at hT
        cases hT
    · by_cases c : n ≤ pl
      · have e2 : NX (ccF n pd) pl = (false, pl, []) := by unfold NX; rw [cc_0 pl c, if_neg (by decide)]
        rw [e2] at e; cases e
      · rw [if_neg c, if_pos e] at hT hend
        have hg := NX_gt e
        have hlt := cc_lt hR.1 (pl + 1)
        have hO : OKo (ccF n pd (pl + 1)) (NX (ccF n pd) pl).2.2 := by
          unfold NX at e ⊢
          by_cases c5 : ccF n pd pl = 59
          · rw [if_pos c5] at e ⊢; exact rdO_ok e
          · rw [if_neg c5] at e; cases e
        exact c_ex_s hlt hG hr hO hend (fun q2 hG2 hend2 => ih _ (dn + 1) nf _ _ q2 r _ (by omega) (by omega) hG2 hr (by omega) (by omega) hT hend2)
end TO
section TP
variable {v : vS} {u : Nat} {L : Nat → vS} {sl : Nat → Int32} {S : Nat → vS} {n : Nat} {pd : Nat → Int32} {m : qS}
theorem row_at {OR : Nat → Int32} {om c : Nat} {xs : List Nat} (h : OR (7 * om) = nI c ∧ ∀ j, j < xs.length → OR (7 * om + 1 + j) = nI (xs.getD j 0)) {t j : Nat} (ht : t = 1 + j) (hj : j < xs.length) : OR (7 * om + t) = nX xs j := by
  rw [ht, ← Nat.add_assoc]; exact h.2 j hj
theorem clp {om : Nat} (hom : om ≤ 41) : ∀ t : Nat, t ≤ 6 → (nI (7 * om) + nI t).toNatClampNeg = 7 * om + t ∧ vp_in (nI (7 * om) + nI t) 294 := fun t ht => by
  rw [nI_add]; exact ⟨nI_clamp (by omega), vp_in_nI (by omega) (by omega)⟩
theorem let_ok {c : Nat} (hc : c < 127) (h : ordN c < 6) : c = 102 ∨ c = 99 ∨ c = 103 ∨ c = 100 ∨ c = 109 ∨ c = 120 := by
  have := not_congr (ord_cases c hc)
  rw [Decidable.not_not] at this
  exact this.mp (by omega)
theorem e_refuses {k : Int32 → qS → Prop} {om c : Nat} {xs : List Nat} (hom : om ≤ 41) (hc : c < 127) (hO : OKo c xs) (h1 : m 1 = v) (hrow : m 13 (7 * om) = nI c ∧ ∀ j, j < xs.length → m 13 (7 * om + 1 + j) = nI (xs.getD j 0)) (hk : k (rfO v c xs) m) : wX10_refuses k m (nI om) := by
  obtain ⟨ho6, hlen, -⟩ := hO
  unfold wX10_refuses wX10_refuses_b168
  intro y1 e1
  rw [show (7 : Int32) * nI om = nI (7 * om) from pk_mul 7 om] at e1
  subst e1
  obtain ⟨c1, p1⟩ := clp hom 1 (by omega)
  obtain ⟨c2, p2⟩ := clp hom 2 (by omega)
  obtain ⟨c3, p3⟩ := clp hom 3 (by omega)
  obtain ⟨c4, p4⟩ := clp hom 4 (by omega)
  obtain ⟨c5, p5⟩ := clp hom 5 (by omega)
  obtain ⟨c6, p6⟩ := clp hom 6 (by omega)
  have c1 : (nI (7 * om) + (1 : Int32)).toNatClampNeg = 7 * om + 1 := c1
  have c2 : (nI (7 * om) + (2 : Int32)).toNatClampNeg = 7 * om + 2 := c2
  have c3 : (nI (7 * om) + (3 : Int32)).toNatClampNeg = 7 * om + 3 := c3
  have c4 : (nI (7 * om) + (4 : Int32)).toNatClampNeg = 7 * om + 4 := c4
  have c5 : (nI (7 * om) + (5 : Int32)).toNatClampNeg = 7 * om + 5 := c5
  have c6 : (nI (7 * om) + (6 : Int32)).toNatClampNeg = 7 * om + 6 := c6
  rw [nI_clamp (by omega), hrow.1, c1, c2, c3, c4, c5, c6]
  have E : ∀ j : Nat, j < 128 → (nI c = nI j ↔ c = j) := fun j hj => nI_eq (by omega) (by omega)
  refine ⟨vp_in_nI (by omega) (by omega), fun z => ?_, fun z => ?_, fun z => ?_, fun z => ?_, fun z1 z2 z3 z4 => ?_⟩
  · obtain rfl := (E 99 (by omega)).mp z
    have hl : xs.length = 6 := hlen
    refine ⟨p1, p2, p3, p4, p5, p6, e_refusesCon ?_⟩
    rw [h1, row_at hrow (t := 1) (j := 0) rfl (by omega), row_at hrow (t := 2) (j := 1) rfl (by omega), row_at hrow (t := 3) (j := 2) rfl (by omega), row_at hrow (t := 4) (j := 3) rfl (by omega), row_at hrow (t := 5) (j := 4) rfl (by omega), row_at hrow (t := 6) (j := 5) rfl (by omega)]
    exact hk
  · obtain rfl := (E 100 (by omega)).mp z
    have hl : xs.length = 1 := hlen
    refine ⟨p1, e_refusesPass ?_⟩
    rw [h1, row_at hrow (t := 1) (j := 0) rfl (by omega)]
    exact hk
  · obtain rfl := (E 102 (by omega)).mp z
    have hl : xs.length = 3 := hlen
    refine ⟨p1, p2, p3, e_refusesFace ?_⟩
    rw [h1, row_at hrow (t := 1) (j := 0) rfl (by omega), row_at hrow (t := 2) (j := 1) rfl (by omega), row_at hrow (t := 3) (j := 2) rfl (by omega)]
    exact hk
  · obtain rfl := (E 120 (by omega)).mp z
    have hl : xs.length = 1 := hlen
    have hk : k (if isIn (nX xs 0) 0 (v 8 - 1) then (0 : Int32) else -1) m := hk
    rw [row_at hrow (t := 1) (j := 0) rfl (by omega)]
    refine ⟨p1, e_isContract (fun w => ⟨fun y => absurd y (by decide), fun _ => ?_⟩) (fun w => ⟨fun _ => ?_, fun y => absurd rfl y⟩)⟩
    · rw [h1] at w; rw [if_pos w] at hk; exact hk
    · rw [h1] at w; rw [if_neg w] at hk; exact hk
  · have hz : rfO v c xs = 0 := by
      unfold rfO
      rw [if_neg (fun y => z3 ((E 102 (by omega)).mpr y)), if_neg (fun y => z1 ((E 99 (by omega)).mpr y)), if_neg (fun y => z2 ((E 100 (by omega)).mpr y)), if_neg (fun y => z4 ((E 120 (by omega)).mpr y))]
    rw [hz] at hk
    exact hk
theorem e_does {k : qS → Prop} {om c : Nat} {xs : List Nat} (hom : om ≤ 41) (hc : c < 127) (hO : OKo c xs) (hM : MM m v u L sl S n pd) (hg : GI v) (hrow : m 13 (7 * om) = nI c ∧ ∀ j, j < xs.length → m 13 (7 * om + 1 + j) = nI (xs.getD j 0)) (hz : rfO v c xs = 0)
    (hk : ∀ r : qS, MM r (doO v c xs) u L sl S n pd → r 13 = m 13 → r 0 14 = m 0 14 → k r) : wX10_does k m (nI om) := by
  obtain ⟨ho6, hlen, hgap⟩ := hO
  obtain ⟨T, F, C, hrs, H, hI, h6, hh, h2, H1, H24⟩ := hg
  have h1 := hM.1
  have h7 := hI.1.2.2.1
  have hF8 := hI.1.2.2.2.1
  have h8 := hI.2.2.2.1.1
  have hC12 := hI.2.2.2.1.2.1
  have n7 : nn (v 7) = F := by rw [h7]; exact nI_clamp (by omega)
  have n8 : nn (v 8) = C := by rw [h8]; exact nI_clamp (by omega)
  have up : ∀ w : vS, doO v c xs = w → k (upA m 1 w) := fun w e => hk _ (e ▸ hM.v) (upA_n (by decide)) (by rw [upA_n (by decide)])
  unfold wX10_does wX10_does_b205
  intro y1 e1
  rw [show (7 : Int32) * nI om = nI (7 * om) from pk_mul 7 om] at e1
  subst e1
  obtain ⟨c1, p1⟩ := clp hom 1 (by omega)
  obtain ⟨c2, p2⟩ := clp hom 2 (by omega)
  obtain ⟨c3, p3⟩ := clp hom 3 (by omega)
  obtain ⟨c4, p4⟩ := clp hom 4 (by omega)
  obtain ⟨c5, p5⟩ := clp hom 5 (by omega)
  obtain ⟨c6, p6⟩ := clp hom 6 (by omega)
  have c1 : (nI (7 * om) + (1 : Int32)).toNatClampNeg = 7 * om + 1 := c1
  have c2 : (nI (7 * om) + (2 : Int32)).toNatClampNeg = 7 * om + 2 := c2
  have c3 : (nI (7 * om) + (3 : Int32)).toNatClampNeg = 7 * om + 3 := c3
  have c4 : (nI (7 * om) + (4 : Int32)).toNatClampNeg = 7 * om + 4 := c4
  have c5 : (nI (7 * om) + (5 : Int32)).toNatClampNeg = 7 * om + 5 := c5
  have c6 : (nI (7 * om) + (6 : Int32)).toNatClampNeg = 7 * om + 6 := c6
  rw [nI_clamp (by omega), hrow.1, c1, c2, c3, c4, c5, c6]
  have E : ∀ j : Nat, j < 128 → (nI c = nI j ↔ c = j) := fun j hj => nI_eq (by omega) (by omega)
  refine ⟨vp_in_nI (by omega) (by omega), fun z => ?_, fun z => ?_, fun z => ?_, fun z => ?_, fun z => ?_, fun z1 z2 z3 z4 z5 => ?_⟩
  · obtain rfl := (E 99 (by omega)).mp z
    have hl : xs.length = 6 := hlen
    have hz : refCon v (nX xs 0) (nX xs 1) (nX xs 2) (nX xs 3) (nX xs 4) (nX xs 5) = 0 := hz
    have hC : C < 12 := by
      rcases Nat.lt_or_ge C 12 with w | w
      · exact w
      · have e : C = 12 := by omega
        unfold refCon at hz
        by_cases y : ¬ okCon (nX xs 0) (nX xs 1) (nX xs 2) (nX xs 3) (nX xs 4) (nX xs 5)
        · rw [if_pos y] at hz; exact absurd hz (by decide)
        · rw [if_neg y, if_pos (show v 8 = 12 from by rw [h8, e]; rfl)] at hz; exact absurd hz (by decide)
    rw [row_at hrow (t := 1) (j := 0) rfl (by omega), row_at hrow (t := 2) (j := 1) rfl (by omega), row_at hrow (t := 3) (j := 2) rfl (by omega), row_at hrow (t := 4) (j := 3) rfl (by omega), row_at hrow (t := 5) (j := 4) rfl (by omega), row_at hrow (t := 6) (j := 5) rfl (by omega)]
    refine ⟨p1, p2, p3, p4, p5, p6, e_laysCon (C := C) (by rw [h1]; exact h8) hC ?_⟩
    rw [h1]
    refine up _ ?_
    show conF v (nn (v 8)) _ _ _ _ _ _ = _
    rw [n8]
  · obtain rfl := (E 100 (by omega)).mp z
    have hl : xs.length = 1 := hlen
    have hz : refPass v (nX xs 0) = 0 := hz
    have hin : isIn (nX xs 0) 1 30 := by
      unfold refPass at hz
      by_cases y : isIn (nX xs 0) 1 30
      · exact y
      · rw [if_pos y] at hz; exact absurd hz (by decide)
    obtain ⟨D, D1, D30, eD⟩ := isIn_30 hin
    have eD2 : nn (nX xs 0) = D := by rw [eD]; exact nI_clamp (by omega)
    have hHD : H * D ≤ 24 * 30 := Nat.mul_le_mul H24 D30
    have e29 : 29 * H * D = 29 * (H * D) := Nat.mul_assoc _ _ _
    rw [row_at hrow (t := 1) (j := 0) rfl (by omega), eD]
    refine ⟨p1, e_days (T := T) (F := F) (C := C) (N := 29 * hrs) (by rw [h1]; exact hI) (by rw [h1]; exact h2) H24 D30 (by omega) (fun r hF hr1 => ?_)⟩
    refine hk r (hM.fr hF ?_) (hF.1 13 (by decide) (by decide)) (hF.2 14 (by decide) (by decide))
    rw [hr1, h1]
    show _ = daysF (nn (nX xs 0)) v
    rw [eD2]
  · obtain rfl := (E 102 (by omega)).mp z
    have hl : xs.length = 3 := hlen
    have hz : refFace v (nX xs 0) (nX xs 1) (nX xs 2) = 0 := hz
    have hF : F < 8 := by
      rcases Nat.lt_or_ge F 8 with w | w
      · exact w
      · have e : F = 8 := by omega
        unfold refFace at hz
        by_cases y : ¬ (isIn (nX xs 0) 1 9999 ∧ isIn (nX xs 1) 1 9 ∧ isIn (nX xs 2) 1 12)
        · rw [if_pos y] at hz; exact absurd hz (by decide)
        · rw [if_neg y, if_pos (show v 7 = 8 from by rw [h7, e]; rfl)] at hz; exact absurd hz (by decide)
    rw [row_at hrow (t := 1) (j := 0) rfl (by omega), row_at hrow (t := 2) (j := 1) rfl (by omega), row_at hrow (t := 3) (j := 2) rfl (by omega)]
    refine ⟨p1, p2, p3, e_laysFace (F := F) (by rw [h1]; exact h7) hF ?_⟩
    rw [h1]
    refine up _ ?_
    show faceF v (nn (v 7)) _ _ _ = _
    rw [n7]
  · obtain rfl := (E 103 (by omega)).mp z
    have hl : xs.length = 1 := hlen
    rw [row_at hrow (t := 1) (j := 0) rfl (by omega)]
    refine ⟨p1, fun y8 e8 q9 e9 => ?_⟩
    rw [e9, e8, up2_A, h1]
    exact up _ rfl
  · obtain rfl := (E 120 (by omega)).mp z
    have hl : xs.length = 1 := hlen
    have hz : (if isIn (nX xs 0) 0 (v 8 - 1) then (0 : Int32) else -1) = 0 := hz
    have ex : isIn (nX xs 0) 0 (nI C - 1) := by
      rw [h8] at hz
      by_cases y : isIn (nX xs 0) 0 (nI C - 1)
      · exact y
      · rw [if_neg y] at hz; exact absurd hz (by decide)
    obtain ⟨j, hj, ej⟩ := (isIn_n (by omega)).mp ex
    have ej2 : nn (nX xs 0) = j := by rw [ej]; exact nI_clamp (by omega)
    rw [row_at hrow (t := 1) (j := 0) rfl (by omega), ej]
    have Dd := e_drops (k := k) (q := m) (v := v) h8 hj hC12
    rw [← h1, upA_id, h1] at Dd
    refine ⟨p1, Dd (up _ ?_)⟩
    show dropF v (nn (nX xs 0)) = _
    rw [ej2]
  · intro q12 e12
    rw [e12, up2_A, h1]
    refine up _ ?_
    unfold doO
    rw [if_neg (fun y => z3 ((E 102 (by omega)).mpr y)), if_neg (fun y => z1 ((E 99 (by omega)).mpr y)), if_neg (fun y => z2 ((E 100 (by omega)).mpr y)), if_neg (fun y => z5 ((E 120 (by omega)).mpr y)), if_neg (fun y => z4 ((E 103 (by omega)).mpr y))]
/-- all orders of a list may be carried out by the reference -/
def allO : List (Nat × List Nat) → Prop
  | [] => True
  | e :: l => e.1 < 127 ∧ OKo e.1 e.2 ∧ allO l
theorem e_ex_l {k : Int32 → qS → Prop} : ∀ (l : List (Nat × List Nat)) (dn nf : Nat) (m : qS) (v : vS), dn + l.length ≤ 42 → l.length < nf → MM m v u L sl S n pd → m 0 14 = nI (dn + l.length) → rowOK (m 13) dn l → allO l → exG l v → (∀ r : qS, MM r (exL l v).2 u L sl S n pd → k (nI (dn + (exL l v).1)) r) → wX10_carryOut_b28 k nf m (nI dn)
  | [], dn, nf, m, v, hb, hn, hM, h14, hrow, hall, hg, hk => by
    obtain ⟨nf, rfl⟩ : ∃ z, nf = z + 1 := ⟨nf - 1, by omega⟩
    unfold wX10_carryOut_b28
    rw [h14]
    exact ⟨fun _ => hk m hM, fun z => absurd (nI_le (Nat.le_refl dn) (by have : dn + 0 ≤ 42 := hb; omega)) z⟩
  | e :: l, dn, nf, m, v, hb, hn, hM, h14, hrow, hall, hg, hk => by
    obtain ⟨nf, rfl⟩ : ∃ z, nf = z + 1 := ⟨nf - 1, by omega⟩
    have hb : dn + (l.length + 1) ≤ 42 := hb
    have hn : l.length + 1 < nf + 1 := hn
    have h14 : m 0 14 = nI (dn + (l.length + 1)) := h14
    unfold wX10_carryOut_b28
    rw [h14]
    refine ⟨fun z => absurd ((nI_leI (by omega) (by omega)).mp z) (by omega), fun _ => ?_⟩
    refine e_refuses (by omega) hall.1 hall.2.1 hM.1 hrow.1 ⟨fun z => ?_, fun z => ?_⟩
    · refine e_does (by omega) hall.1 hall.2.1 hM hg.1 hrow.1 z (fun r hr h13 h14r => ?_)
      intro y5 e5
      rw [e5, nI_1]
      have ee : exL (e :: l) v = ((exL l (doO v e.1 e.2)).1 + 1, (exL l (doO v e.1 e.2)).2) := by
        show (if rfO v e.1 e.2 = 0 then _ else _) = _
        rw [if_pos z]
      refine e_ex_l l (dn + 1) nf r _ (by omega) (by omega) hr (by rw [h14r, h14]; exact congrArg nI (by omega)) (by rw [h13]; exact hrow.2) hall.2.2 (hg.2 z) (fun r2 hr2 => ?_)
      have K := hk r2 (by rw [ee]; exact hr2)
      rw [ee, show dn + ((exL l (doO v e.1 e.2)).1 + 1, (exL l (doO v e.1 e.2)).2).1 = dn + 1 + (exL l (doO v e.1 e.2)).1 from by show dn + ((exL l (doO v e.1 e.2)).1 + 1) = _; omega] at K
      exact K
    · have ee : exL (e :: l) v = (0, v) := by
        show (if rfO v e.1 e.2 = 0 then _ else _) = _
        rw [if_neg z]
      have K := hk m (by rw [ee]; exact hM)
      rw [ee] at K
      exact K
theorem rdL_all {cc : Nat → Nat} (hcc : ∀ p, cc p < 127) : ∀ (f q : Nat), allO (rdL cc n f q).2.2
  | 0, q => trivial
  | f + 1, q => by
    unfold rdL
    split
    · trivial
    · split
      · rename_i e
        refine ⟨hcc _, ?_, rdL_all hcc f _⟩
        unfold NX at e ⊢
        by_cases c5 : cc q = 59
        · rw [if_pos c5] at e ⊢; exact rdO_ok e
        · rw [if_neg c5] at e; cases e
      · trivial
theorem rdL_len {cc : Nat → Nat} : ∀ (f q : Nat), (rdL cc n f q).2.2.length ≤ f
  | 0, q => Nat.le_refl 0
  | f + 1, q => by
    unfold rdL
    split
    · exact Nat.zero_le _
    · split
      · exact Nat.succ_le_succ (rdL_len f _)
      · exact Nat.zero_le _
end TP
theorem j_carryOut {q o d tq : qS} {zs : Nat → qS} {m : qS} (h : JJ q o d zs m) : wX9_carryOut (fun r q o d tq zs => wX10_carryOut (fun r2 m => r = r2 ∧ JJ q o d zs m) m) q o d tq zs := by
  obtain ⟨v, u, L, sl, S, n, pd, ⟨hq, hH, hS, hD⟩, hM⟩ := h
  have hcc : ∀ p, ccF n pd p < 127 := cc_lt hD
  unfold wX9_carryOut
  refine c_ff hD (fun r e hr => ⟨fun z => ?_, fun _ => ?_⟩) (fun r e hr => ⟨fun _ => ?_, fun z => absurd rfl z⟩)
  · refine absurd z (nI_ne6 ?_)
    have hle : (rdT (ccF n pd) n).2.1 ≤ 80 := by
      have n80 := hD.2.1
      have key : ∀ (f q : Nat), q ≤ n → (rdL (ccF n pd) n f q).2.1 ≤ n := by
        intro f
        induction f with
        | zero => intro q h; exact h
        | succ f ih =>
          intro q h
          have hN : (NX (ccF n pd) q).2.1 ≤ n := by
            unfold NX
            split
            · rename_i c
              exact rdO_le (fun p hp => cc_0 p hp) (cc_in (pd := pd) (by omega))
            · exact h
          unfold rdL
          split
          · exact h
          · split
            · exact ih _ hN
            · exact hN
      have h0 : (rdO (ccF n pd) 0).2.1 ≤ n := rdO_le (fun p hp => cc_0 p hp) (Nat.zero_le n)
      refine Nat.le_trans ?_ n80
      unfold rdT
      split
      · exact key 41 _ h0
      · exact h0
    omega
  · -- the pad has a fault
    unfold wX10_carryOut
    intro q6 e6
    have h6 : MM q6 v u L sl S n pd := by rw [e6]; exact hM.th 0
    refine e_reads hD.pad h6 (fun r2 OR om e2 hr2 => ⟨fun z => ?_, fun _ => ⟨rfl, v, u, L, sl, S, n, pd, ⟨hq, hH, hS, hr⟩, hr2.1⟩⟩) (fun r2 OR e2 hr2 _ => by rw [e] at e2; cases e2)
    have n80 := hD.2.1
    have := hr2.2.2.1
    exact absurd z (nI_ne6 (by omega))
  · -- the orders are carried out
    refine c_prepare ⟨hq, hH, hS, hr⟩ (fun zs2 hX2 hP2 => ?_)
    unfold wX5_startReading
    intro d26 e26
    have hD26 : XD d26 n pd := by rw [e26]; exact hr.up (by decide) (by omega)
    have h1 : d26 0 1 = nI 0 := by rw [e26, up2_A, upA_s, upd_s]; rfl
    -- what the class ends with, and the reference
    have fin : ∀ q2 d2 : qS, RG q2 (exL (rdT (ccF n pd) n).2.2 v).2 → XD d2 n pd → exG (rdT (ccF n pd) n).2.2 v → wX9_carryOut_b64 (fun r q o d tq zs => wX10_carryOut (fun r2 m => r = r2 ∧ JJ q o d zs m) m) q2 o d2 tq zs2 (nI (0 + (exL (rdT (ccF n pd) n).2.2 v).1)) := by
      intro q2 d2 hG2 hD2 hg
      rw [Nat.zero_add]
      unfold wX9_carryOut_b64
      intro d1 ed1
      have hD0 : XD d1 0 pd := ⟨by rw [ed1, up2_A, upA_s, upd_s]; rfl, by omega, fun j hj => absurd hj (Nat.not_lt_zero j)⟩
      have hT := e
      have hlen : (rdT (ccF n pd) n).2.2.length ≤ 42 := by
        unfold rdT
        split
        · exact Nat.succ_le_succ (rdL_len 41 _)
        · exact Nat.zero_le _
      have hall : allO (rdT (ccF n pd) n).2.2 := by
        unfold rdT
        split
        · rename_i e9; exact ⟨hcc _, rdO_ok e9, rdL_all hcc 41 _⟩
        · trivial
      have hcnt : ∀ (l : List (Nat × List Nat)) (w : vS), (exL l w).1 ≤ l.length := by
        intro l
        induction l with
        | nil => intro w; exact Nat.le_refl 0
        | cons a l ih =>
          intro w
          have e9 : exL (a :: l) w = if rfO w a.1 a.2 = 0 then ((exL l (doO w a.1 a.2)).1 + 1, (exL l (doO w a.1 a.2)).2) else (0, w) := rfl
          rw [e9]
          split
          · exact Nat.succ_le_succ (ih _)
          · exact Nat.zero_le _
      have hc42 := hcnt (rdT (ccF n pd) n).2.2 v
      refine c_rec hG2 ⟨hG2, hX2.2.1, hX2.2.2.1, hD0⟩ hP2 (nI_pos (by omega)) (fun o2 hX3 => ?_)
      unfold wX10_carryOut
      intro q6 e6
      have h6 : MM q6 v u L sl S n pd := by rw [e6]; exact hM.th 0
      refine e_reads hD.pad h6 (fun r2 OR om e2 hr2 => by rw [hT] at e2; cases e2) (fun r2 OR e2 hr2 hrow => ⟨fun _ => ?_, fun z => absurd rfl z⟩)
      refine e_recs2 hr2.1 (fun r3 hr3 h13 h14 => ?_)
      intro q11 e11
      have hM11 : MM q11 (v) (recU u) (recL u L v) sl S 0 pd := by
        obtain ⟨a1, a2, a3, a4, a5, a6, a7, a8, a9⟩ := hr3
        exact ⟨by rw [e11, up2_A, upA_n (by decide)]; exact a1, by rw [e11, up2_A, upA_s, upd_n (by decide)]; exact a2, a3, by rw [e11, up2_A, upA_n (by decide)]; exact a4, by rw [e11, up2_A, upA_n (by decide)]; exact a5, by rw [e11, up2_A, upA_n (by decide)]; exact a6, by rw [e11, up2_A, upA_s, upd_s]; rfl, by omega, fun j hj => absurd hj (Nat.not_lt_zero j)⟩
      have g13 : q11 13 = OR := by rw [e11, up2_A, upA_n (by decide), h13]; exact hr2.2.2.2.2.2
      have g14 : q11 0 14 = nI (0 + (rdT (ccF n pd) n).2.2.length) := by rw [e11, up2_A, upA_s, upd_n (by decide), h14, Nat.zero_add]; exact hr2.2.2.2.2.1
      refine ⟨43, e_ex_l (rdT (ccF n pd) n).2.2 0 43 q11 v (by omega) (by omega) hM11 g14 (by rw [g13]; exact hrow) hall hg (fun r4 hr4 => ?_)⟩
      rw [Nat.zero_add]
      exact ⟨rfl, _, _, _, sl, S, 0, pd, hX3, hr4⟩
    -- the first order stands at the beginning
    have e0 : (rdO (ccF n pd) 0).1 = true := by
      unfold rdT at e
      split at e
      · rename_i e9; exact e9
      · cases e
    refine ⟨44, ?_⟩
    show wX9_carryOut_b35 _ (43 + 1) _ _ _ _ _ _
    unfold wX9_carryOut_b35 wX5_readNextOrder wX5_readNextOrder_b16 wX5_readNextOrder_b27 wX5_readNextOrder_b28
    refine ⟨fun z => absurd z (by decide), fun _ => ⟨fun _ => ?_, fun z => absurd h1 z⟩⟩
    refine c_order hD26 h1 (Nat.zero_le n) (fun r2 q2 ys he _ _ _ => by rw [he] at e0; cases e0) (fun r2 q2 ys he hr2 => ⟨fun z => absurd z (by decide), fun _ => ⟨nar01.2, fun z => absurd z (by decide), fun _ => ?_⟩⟩)
    have e2 : (rdO (ccF n pd) 0).2.1 = q2 := by rw [he]
    have e3 : (rdO (ccF n pd) 0).2.2 = ys := by rw [he]
    have hgt := rdO_gt e0
    have hO := rdO_ok e0
    rw [e2] at hgt
    rw [e3] at hO
    have eT : rdT (ccF n pd) n = conT (ccF n pd 0, ys) (rdL (ccF n pd) n 41 q2) := by unfold rdT; rw [if_pos e0, e2, e3]
    rw [eT] at fin e
    exact c_ex_s (dn := 0) (hcc 0) hX2.1 hr2 hO fin (fun q3 hG3 hend3 => c_ex_l 41 q2 (0 + 1) 43 _ _ q3 r2 _ (by omega) (by omega) hG3 hr2 (by omega) (by omega) e hend3)
