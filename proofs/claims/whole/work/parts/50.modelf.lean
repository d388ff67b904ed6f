/-! ===== the reference whole: numbers v, recorded states L (u of them), slots S (filled where sl isn't 0), pad pd (n characters) ===== -/
def recU (u : Nat) : Nat := if u = 6 then 6 else u + 1
def recL (u : Nat) (L : Nat → vS) (v : vS) : Nat → vS := fun i => if u = 6 then (if i < 5 then L (i + 1) else v) else if i = u then v else L i
def MM (m : qS) (v : vS) (u : Nat) (L : Nat → vS) (sl : Nat → Int32) (S : Nat → vS) (n : Nat) (pd : Nat → Int32) : Prop :=
  m 1 = v ∧ m 0 4 = nI u ∧ u ≤ 6 ∧ (∀ i, i < u → ∀ j, j < 210 → m 3 (210 * i + j) = L i j) ∧ (∀ s, s < 2 → m 6 s = sl s) ∧ (∀ s, s < 2 → ∀ j, j < 210 → m 5 (210 * s + j) = S s j) ∧ m 0 8 = nI n ∧ n ≤ 80 ∧ ∀ j, j < n → m 7 j = pd j
theorem MM.fr {m r : qS} {v v' : vS} {u : Nat} {L : Nat → vS} {sl : Nat → Int32} {S : Nat → vS} {n : Nat} {pd : Nat → Int32} (h : MM m v u L sl S n pd) (hF : Fr m r) (h1 : r 1 = v') : MM r v' u L sl S n pd := by
  obtain ⟨a1, a2, a3, a4, a5, a6, a7, a8, a9⟩ := h
  refine ⟨h1, by rw [hF.2 4 (by decide) (by decide)]; exact a2, a3, ?_, ?_, ?_, by rw [hF.2 8 (by decide) (by decide)]; exact a7, a8, ?_⟩
  · rw [hF.1 3 (by decide) (by decide)]; exact a4
  · rw [hF.1 6 (by decide) (by decide)]; exact a5
  · rw [hF.1 5 (by decide) (by decide)]; exact a6
  · rw [hF.1 7 (by decide) (by decide)]; exact a9
theorem MM.v {m : qS} {v v' : vS} {u : Nat} {L : Nat → vS} {sl : Nat → Int32} {S : Nat → vS} {n : Nat} {pd : Nat → Int32} (h : MM m v u L sl S n pd) : MM (upA m 1 v') v' u L sl S n pd := h.fr (Fr.up m v') upA_s
/-- the number that isn't told to anybody -/
theorem MM.th {m : qS} {v : vS} {u : Nat} {L : Nat → vS} {sl : Nat → Int32} {S : Nat → vS} {n : Nat} {pd : Nat → Int32} (h : MM m v u L sl S n pd) (x : Int32) : MM (up2 m 0 0 x) v u L sl S n pd := by
  obtain ⟨a1, a2, a3, a4, a5, a6, a7, a8, a9⟩ := h
  refine ⟨?_, ?_, a3, ?_, ?_, ?_, ?_, a8, ?_⟩
  · rw [up2_A, upA_n (by decide)]; exact a1
  · rw [up2_A, upA_s, upd_n (by decide)]; exact a2
  · rw [up2_A, upA_n (by decide)]; exact a4
  · rw [up2_A, upA_n (by decide)]; exact a5
  · rw [up2_A, upA_n (by decide)]; exact a6
  · rw [up2_A, upA_s, upd_n (by decide)]; exact a7
  · rw [up2_A, upA_n (by decide)]; exact a9
theorem e_recs {k : qS → Prop} {m : qS} {v : vS} {u : Nat} {L : Nat → vS} {sl : Nat → Int32} {S : Nat → vS} {n : Nat} {pd : Nat → Int32} (h : MM m v u L sl S n pd) (hk : ∀ r, MM r v (recU u) (recL u L v) sl S n pd → k r) : wX10_records k m := by
  obtain ⟨a1, a2, a3, a4, a5, a6, a7, a8, a9⟩ := h
  refine e_records a3 a2 (hk _ ?_)
  refine ⟨?_, ?_, ?_, ?_, ?_, ?_, ?_, a8, ?_⟩
  · rw [up2_A, upA_n (by decide), upA_n (by decide)]; exact a1
  · rw [up2_A, upA_s, upd_s]; rfl
  · unfold recU; split <;> omega
  · intro i hi j hj
    rw [up2_A, upA_n (by decide), upA_s]
    unfold recU at hi
    unfold recF recL
    rw [a1]
    by_cases c : u = 6
    · rw [if_pos c] at hi
      rw [if_pos c, if_pos c]
      by_cases c5 : i < 5
      · rw [if_neg (by omega), if_pos (by omega), if_pos c5, ← a4 (i + 1) (by omega) j hj]
        exact congrArg (m 3) (by omega)
      · rw [if_pos (by omega), if_neg c5]
        exact congrArg v (by omega)
    · rw [if_neg c] at hi
      rw [if_neg c, if_neg c]
      by_cases ci : i = u
      · rw [if_pos (by omega), if_pos ci]
        exact congrArg v (by omega)
      · rw [if_neg (by omega), if_neg ci]
        exact a4 i (by omega) j hj
  · rw [up2_A, upA_n (by decide), upA_n (by decide)]; exact a5
  · rw [up2_A, upA_n (by decide), upA_n (by decide)]; exact a6
  · rw [up2_A, upA_s, upd_n (by decide), upA_n (by decide)]; exact a7
  · rw [up2_A, upA_n (by decide), upA_n (by decide)]; exact a9
/-- an int within bounds, as the reference asks it -/
abbrev isIn (x a b : Int32) : Prop := ¬ (x < a ∨ b < x)
theorem e_inC {k : Int32 → Prop} {x a b : Int32} (h1 : isIn x a b → k 1) (h0 : ¬ isIn x a b → k 0) : wX10_in k x a b := by
  refine e_in ?_
  by_cases c : x < a ∨ b < x
  · rw [if_pos c]; exact h0 (fun z => z c)
  · rw [if_neg c]; exact h1 c
abbrev okSet (s x : Int32) : Prop := (s = 0 ∧ isIn x 0 20) ∨ (s = 1 ∧ isIn x 1 40) ∨ (s = 2 ∧ isIn x 1 24) ∨ (s = 3 ∧ isIn x 1 9) ∨ (s = 4 ∧ isIn x 1 200) ∨ (s = 5 ∧ isIn x 0 99)
theorem e_isSetting {k : Int32 → Prop} {s x : Int32} (h1 : okSet s x → k 1) (h0 : ¬ okSet s x → k 0) : wX10_isSetting k s x := by
  unfold wX10_isSetting
  refine ⟨fun c => ?_, fun c => ?_, fun c => ?_, fun c => ?_, fun c => ?_, fun c => ?_, fun c0 c1 c2 c3 c4 c5 => h0 ?_⟩
  · subst c; exact e_inC (fun z => ⟨rfl, h1 (Or.inl ⟨rfl, z⟩)⟩) (fun z => ⟨rfl, h0 (fun y => by rcases y with ⟨_, y⟩ | ⟨e, _⟩ | ⟨e, _⟩ | ⟨e, _⟩ | ⟨e, _⟩ | ⟨e, _⟩ <;> first | exact z y | exact absurd e (by decide))⟩)
  · subst c; exact e_inC (fun z => ⟨rfl, h1 (Or.inr (Or.inl ⟨rfl, z⟩))⟩) (fun z => ⟨rfl, h0 (fun y => by rcases y with ⟨e, _⟩ | ⟨_, y⟩ | ⟨e, _⟩ | ⟨e, _⟩ | ⟨e, _⟩ | ⟨e, _⟩ <;> first | exact z y | exact absurd e (by decide))⟩)
  · subst c; exact e_inC (fun z => ⟨rfl, h1 (Or.inr (Or.inr (Or.inl ⟨rfl, z⟩)))⟩) (fun z => ⟨rfl, h0 (fun y => by rcases y with ⟨e, _⟩ | ⟨e, _⟩ | ⟨_, y⟩ | ⟨e, _⟩ | ⟨e, _⟩ | ⟨e, _⟩ <;> first | exact z y | exact absurd e (by decide))⟩)
  · subst c; exact e_inC (fun z => ⟨rfl, h1 (Or.inr (Or.inr (Or.inr (Or.inl ⟨rfl, z⟩))))⟩) (fun z => ⟨rfl, h0 (fun y => by rcases y with ⟨e, _⟩ | ⟨e, _⟩ | ⟨e, _⟩ | ⟨_, y⟩ | ⟨e, _⟩ | ⟨e, _⟩ <;> first | exact z y | exact absurd e (by decide))⟩)
  · subst c; exact e_inC (fun z => ⟨rfl, h1 (Or.inr (Or.inr (Or.inr (Or.inr (Or.inl ⟨rfl, z⟩)))))⟩) (fun z => ⟨rfl, h0 (fun y => by rcases y with ⟨e, _⟩ | ⟨e, _⟩ | ⟨e, _⟩ | ⟨e, _⟩ | ⟨_, y⟩ | ⟨e, _⟩ <;> first | exact z y | exact absurd e (by decide))⟩)
  · subst c; exact e_inC (fun z => ⟨rfl, h1 (Or.inr (Or.inr (Or.inr (Or.inr (Or.inr ⟨rfl, z⟩)))))⟩) (fun z => ⟨rfl, h0 (fun y => by rcases y with ⟨e, _⟩ | ⟨e, _⟩ | ⟨e, _⟩ | ⟨e, _⟩ | ⟨e, _⟩ | ⟨_, y⟩ <;> first | exact z y | exact absurd e (by decide))⟩)
  · rintro (⟨e, _⟩ | ⟨e, _⟩ | ⟨e, _⟩ | ⟨e, _⟩ | ⟨e, _⟩ | ⟨e, _⟩)
    · exact c0 e
    · exact c1 e
    · exact c2 e
    · exact c3 e
    · exact c4 e
    · exact c5 e
/-- the least number of trucks that can be set, by the first n trucks -/
def needF (v : vS) : Nat → Int32
  | 0 => 0
  | n + 1 => if v (58 + 4 * n) ≤ 0 then needF v n else nI (n + 1)
theorem e_need_l {k : Int32 → qS → Prop} {q : qS} {T : Nat} (h0 : q 1 0 = nI T) (hT : T ≤ 20) : ∀ (d i n : Nat), i + d = T → d < n → k (needF (q 1) T) q → wX10_trucksNeeded_b4 k n q (needF (q 1) i) (nI i) := by
  intro d
  induction d with
  | zero =>
    intro i n hi hn h
    obtain ⟨n, rfl⟩ : ∃ m, n = m + 1 := ⟨n - 1, by omega⟩
    unfold wX10_trucksNeeded_b4
    refine pk_le T i (fun _ => ?_) (fun c => by omega) h0 rfl (by omega) (by omega)
    rw [show i = T from by omega]; exact h
  | succ d ih =>
    intro i n hi hn h
    obtain ⟨n, rfl⟩ : ∃ m, n = m + 1 := ⟨n - 1, by omega⟩
    unfold wX10_trucksNeeded_b4 wX10_trucksNeeded_b30
    refine pk_le T i (fun c => by omega) (fun _ => ?_) h0 rfl (by omega) (by omega)
    have L := ih (i + 1) n (by omega) (by omega) h
    rw [needF] at L
    refine e_truckOf i 0 (by omega) ⟨fun c y e => ?_, fun c y e => ?_⟩
    · rw [if_pos (show q 1 (58 + 4 * i) ≤ 0 from c)] at L; rw [e, nI_1]; exact L
    · rw [if_neg (show ¬ q 1 (58 + 4 * i) ≤ 0 from c)] at L; rw [e, nI_1]; exact L
theorem e_need {k : Int32 → qS → Prop} {q : qS} {T : Nat} (h0 : q 1 0 = nI T) (hT : T ≤ 20) (h : k (needF (q 1) T) q) : wX10_trucksNeeded k q :=
  ⟨T + 1, e_need_l h0 hT T 0 (T + 1) (by omega) (by omega) h⟩
/-- what set answers when it refuses (0: it doesn't) -/
def refSet (v : vS) (s x : Int32) : Int32 := if ¬ okSet s x then -2 else if s = 0 ∧ x < needF v (nn (v 0)) then -5 else 0
theorem e_refusesSet {k : Int32 → qS → Prop} {q : qS} {T : Nat} {s x : Int32} (h0 : q 1 0 = nI T) (hT : T ≤ 20) (h : k (refSet (q 1) s x) q) : wX10_refusesSet k q s x := by
  have cT : nn (q 1 0) = T := by rw [h0]; exact nI_clamp (by omega)
  unfold refSet at h
  rw [cT] at h
  unfold wX10_refusesSet wX10_refusesSet_b28 wX10_refusesSet_b29
  refine e_isSetting (fun c => ⟨fun _ => ?_, fun z => absurd z (by decide)⟩) (fun c => ⟨fun z => absurd rfl z, fun _ => ?_⟩)
  · rw [if_neg (fun z => z c)] at h
    refine ⟨fun c0 => ?_, fun c0 => e_need h0 hT ⟨fun c1 => ?_, fun c1 => ?_⟩⟩
    · rw [if_neg (fun z => c0 z.1)] at h; exact h
    · rw [if_neg (fun z => by have z2 := z.2; rw [lt_I] at z2; rw [le_I] at c1; omega)] at h; exact h
    · rw [if_pos ⟨c0, by rw [lt_I]; rw [le_I] at c1; omega⟩] at h; exact h
  · rw [if_pos c] at h; exact h
theorem okSet_ix {s x : Int32} (h : okSet s x) : ∃ i : Nat, i ≤ 5 ∧ s = nI i := by
  rcases h with ⟨e, _⟩ | ⟨e, _⟩ | ⟨e, _⟩ | ⟨e, _⟩ | ⟨e, _⟩ | ⟨e, _⟩
  · exact ⟨0, by omega, e⟩
  · exact ⟨1, by omega, e⟩
  · exact ⟨2, by omega, e⟩
  · exact ⟨3, by omega, e⟩
  · exact ⟨4, by omega, e⟩
  · exact ⟨5, by omega, e⟩
section MO
variable {m : qS} {v : vS} {u : Nat} {L : Nat → vS} {sl : Nat → Int32} {S : Nat → vS} {n : Nat} {pd : Nat → Int32} {k : Int32 → qS → Prop}
theorem e_set {T : Nat} {s x : Int32} (h : MM m v u L sl S n pd) (h0 : v 0 = nI T) (hT : T ≤ 20) (hr : refSet v s x ≠ 0 → ∀ r, MM r v u L sl S n pd → k (refSet v s x) r)
    (hk : refSet v s x = 0 → ∀ r, MM r (upd v (nn s) x) (recU u) (recL u L v) sl S n pd → k (v (nn s)) r) : wX10_set k m s x := by
  unfold wX10_set
  intro q1 e1
  have h1 := h.th 0
  rw [← e1] at h1
  have hv := h1.1
  refine e_refusesSet (T := T) (by rw [hv]; exact h0) hT ?_
  rw [hv]
  refine ⟨fun c => e_recs h1 (fun r hr2 => ?_), fun c => hr c q1 h1⟩
  have hok : okSet s x := by
    unfold refSet at c
    by_cases z : okSet s x
    · exact z
    · rw [if_pos z] at c; exact absurd c (by decide)
  obtain ⟨i, hi, ei⟩ := okSet_ix hok
  have ci : nn s = i := by rw [ei]; exact nI_clamp (by omega)
  have hv2 := hr2.1
  rw [ci] at hk
  rw [ei, nI_clamp (by omega)]
  refine ⟨vp_in_nI (by omega) (by omega), fun y6 e6 => ⟨vp_in_nI (by omega) (by omega), fun q7 e7 => ?_⟩⟩
  rw [e7, e6, up2_A, hv2]
  exact hk c _ hr2.v
theorem e_mend (h : MM m v u L sl S n pd) (hk : ∀ r, MM r (upd v 10 0) (recU u) (recL u L v) sl S n pd → k (v 10) r) : wX10_mend k m := by
  unfold wX10_mend
  intro q1 e1
  have h1 := h.th 0
  rw [← e1] at h1
  refine e_recs h1 (fun r hr2 => ?_)
  intro y4 e4 q5 e5
  have hv2 := hr2.1
  rw [e5, e4, up2_A, hv2]
  exact hk _ hr2.v
/-- what face answers when it refuses -/
def refFace (v : vS) (t h w : Int32) : Int32 := if ¬ (isIn t 1 9999 ∧ isIn h 1 9 ∧ isIn w 1 12) then -2 else if v 7 = 8 then -4 else 0
theorem e_refusesFace {t h w : Int32} (hk : k (refFace (m 1) t h w) m) : wX10_refusesFace k m t h w := by
  unfold wX10_refusesFace wX10_refusesFace_b31 wX10_refusesFace_b52
  unfold refFace at hk
  refine e_inC (fun c1 => ⟨fun z => absurd z (by decide), fun _ => e_inC (fun c2 => ⟨fun z => absurd z (by decide), fun _ => e_inC (fun c3 => ⟨fun _ => ⟨fun c4 => ?_, fun c4 => ?_⟩, fun z => absurd z (by decide)⟩) (fun c3 => ⟨fun z => absurd rfl z, fun _ => ?_⟩)⟩) (fun c2 => ⟨fun _ => ?_, fun z => absurd rfl z⟩)⟩) (fun c1 => ⟨fun _ => ?_, fun z => absurd rfl z⟩)
  · rw [if_neg (fun z => z ⟨c1, c2, c3⟩), if_neg c4] at hk; exact hk
  · rw [if_neg (fun z => z ⟨c1, c2, c3⟩), if_pos c4] at hk; exact hk
  · rw [if_pos (fun z => c3 z.2.2)] at hk; exact hk
  · rw [if_pos (fun z => c2 z.2.1)] at hk; exact hk
  · rw [if_pos (fun z => c1 z.1)] at hk; exact hk
/-- a face comes as the F-th -/
def faceF (v : vS) (F : Nat) (t h w : Int32) : vS := upd (upd (upd (upd (upd v (26 + 4 * F) t) (27 + 4 * F) h) (28 + 4 * F) w) (29 + 4 * F) 0) 7 (nI (F + 1))
theorem e_laysFace {F : Nat} {t h w : Int32} (h7 : m 1 7 = nI F) (hF : F < 8) (hk : k (nI F) (upA m 1 (faceF (m 1) F t h w))) : wX10_laysFace k m t h w := by
  unfold wX10_laysFace
  have e1 : 26 + 4 * F + 1 = 27 + 4 * F := by omega
  have e2 : 26 + 4 * F + 2 = 28 + 4 * F := by omega
  have e3 : 26 + 4 * F + 3 = 29 + 4 * F := by omega
  have c0 : Int32.toNatClampNeg (nI (26 + 4 * F)) = 26 + 4 * F := nI_clamp (by omega)
  have c1 : Int32.toNatClampNeg (nI (27 + 4 * F)) = 27 + 4 * F := nI_clamp (by omega)
  have c2 : Int32.toNatClampNeg (nI (28 + 4 * F)) = 28 + 4 * F := nI_clamp (by omega)
  have c3 : Int32.toNatClampNeg (nI (29 + 4 * F)) = 29 + 4 * F := nI_clamp (by omega)
  have v0 : vp_in (nI (26 + 4 * F)) 210 := vp_in_nI (by omega) (by omega)
  have v1 : vp_in (nI (27 + 4 * F)) 210 := vp_in_nI (by omega) (by omega)
  have v2 : vp_in (nI (28 + 4 * F)) 210 := vp_in_nI (by omega) (by omega)
  have v3 : vp_in (nI (29 + 4 * F)) 210 := vp_in_nI (by omega) (by omega)
  intro y1 d1
  rw [h7, ix26] at d1
  subst d1
  simp only [ixp0, ixp1, ixp2, ixp3, e1, e2, e3, c0, c1, c2, c3]
  refine ⟨v0, fun q2 d2 => ⟨v1, fun q3 d3 => ⟨v2, fun q4 d4 => ⟨v3, fun q5 d5 y6 d6 q7 d7 => ?_⟩⟩⟩⟩
  have u7 : ∀ {f : Nat → Int32} {x : Int32} {j : Nat}, 26 ≤ j → upd f j x 7 = f 7 := fun {f x j} b => upd_n (by omega)
  rw [d7, d6, d5, d4, d3, d2]
  simp only [up2_A, upA_A, upA_s, upd_s]
  rw [u7 (by omega), u7 (by omega), u7 (by omega), u7 (by omega), h7, nI_1, nI_pred]
  exact hk
theorem e_face {F : Nat} {t x w : Int32} (h : MM m v u L sl S n pd) (h7 : v 7 = nI F) (hF : F ≤ 8) (hr : refFace v t x w ≠ 0 → ∀ r, MM r v u L sl S n pd → k (refFace v t x w) r)
    (hk : refFace v t x w = 0 → F < 8 → ∀ r, MM r (faceF v F t x w) (recU u) (recL u L v) sl S n pd → k (nI F) r) : wX10_face k m t x w := by
  unfold wX10_face
  intro q1 e1
  have h1 := h.th 0
  rw [← e1] at h1
  have hv := h1.1
  refine e_refusesFace ?_
  rw [hv]
  refine ⟨fun c => e_recs h1 (fun r hr2 => ?_), fun c => hr c q1 h1⟩
  have hv2 := hr2.1
  have hF8 : F < 8 := by
    rcases Nat.lt_or_ge F 8 with z | z
    · exact z
    · obtain rfl : F = 8 := by omega
      unfold refFace at c
      by_cases y : ¬ (isIn t 1 9999 ∧ isIn x 1 9 ∧ isIn w 1 12)
      · rw [if_pos y] at c; exact absurd c (by decide)
      · rw [if_neg y, if_pos (show v 7 = 8 from h7)] at c; exact absurd c (by decide)
  refine e_laysFace (F := F) (by rw [hv2]; exact h7) hF8 ?_
  rw [hv2]
  exact hk c hF8 _ hr2.v
end MO
