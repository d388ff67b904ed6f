/-! ===== what holds of the 210 numbers at all times ===== -/
def seOk (v : vS) : Prop := ∃ L H g k o : Nat, v 1 = nI L ∧ (1 ≤ L ∧ L ≤ 40) ∧ v 2 = nI H ∧ (1 ≤ H ∧ H ≤ 24) ∧ v 3 = nI g ∧ (1 ≤ g ∧ g ≤ 9) ∧ v 4 = nI k ∧ (1 ≤ k ∧ k ≤ 200) ∧ v 5 = nI o ∧ o ≤ 99
/-- stone, bins and wear, with N steps behind them -/
def stOk (v : vS) (N : Nat) : Prop := (∃ w, v 10 = nI w ∧ w ≤ 2000 * N) ∧ (∃ b0 b1 b2, v 14 = nI b0 ∧ v 15 = nI b1 ∧ v 16 = nI b2 ∧ b0 + b1 + b2 ≤ 200 * N) ∧ ∀ h, 1 ≤ h → h ≤ 9 → ∃ s, v (16 + h) = nI s ∧ s ≤ 40 * N
def coOk (v : vS) (C : Nat) : Prop := v 8 = nI C ∧ C ≤ 12 ∧ ∀ c, c < C → ∃ t a b e f p, cnOk v c t a b e f p
def faOk (v : vS) (F : Nat) : Prop := ∀ f, f < F → ∃ l y, v (26 + 4 * f) = nI l ∧ l ≤ 9999 ∧ v (28 + 4 * f) = nI y ∧ 1 ≤ y ∧ y ≤ 12
def tkOk (v : vS) (T : Nat) : Prop := ∀ t, t < 20 → (T ≤ t → v (58 + 4 * t) = 0) ∧ (v (58 + 4 * t) ≠ 0 → ∃ z, v (59 + 4 * t) = nI z ∧ z ≤ 40)
def Inv (v : vS) (T F C N : Nat) : Prop := hrOk v T F ∧ seOk v ∧ stOk v N ∧ coOk v C ∧ faOk v F ∧ tkOk v T
theorem Inv.mono {v : vS} {T F C N M : Nat} (h : Inv v T F C N) (hM : N ≤ M) : Inv v T F C M := by
  obtain ⟨h1, h2, ⟨⟨w, w1, w2⟩, ⟨b0, b1, b2, x0, x1, x2, x3⟩, hs⟩, h4⟩ := h
  refine ⟨h1, h2, ⟨⟨w, w1, by omega⟩, ⟨b0, b1, b2, x0, x1, x2, by omega⟩, fun i i1 i9 => ?_⟩, h4⟩
  obtain ⟨s, s1, s2⟩ := hs i i1 i9
  exact ⟨s, s1, by omega⟩
theorem seOk.keep {v w : vS} (h : seOk v) (hk : ∀ j, 1 ≤ j → j ≤ 5 → w j = v j) : seOk w := by
  obtain ⟨L, H, g, k, o, h1, h1', h2, h2', h3, h3', h4, h4', h5, h5'⟩ := h
  exact ⟨L, H, g, k, o, by rw [hk 1 (by omega) (by omega)]; exact h1, h1', by rw [hk 2 (by omega) (by omega)]; exact h2, h2', by rw [hk 3 (by omega) (by omega)]; exact h3, h3', by rw [hk 4 (by omega) (by omega)]; exact h4, h4', by rw [hk 5 (by omega) (by omega)]; exact h5, h5'⟩
theorem cnOk.keep {v w : vS} {c t a b e f p : Nat} (h : cnOk v c t a b e f p) (hk : ∀ j, j < 6 → w (138 + 6 * c + j) = v (138 + 6 * c + j)) : cnOk w c t a b e f p := by
  unfold cnOk trF at *
  rw [hk 0 (by omega), hk 1 (by omega), hk 2 (by omega), hk 3 (by omega), hk 4 (by omega), hk 5 (by omega)]
  exact h
theorem coOk.keep {v w : vS} {C : Nat} (h : coOk v C) (h8 : w 8 = v 8) (hk : ∀ j, 138 ≤ j → j < 210 → w j = v j) : coOk w C := by
  obtain ⟨h1, h2, h3⟩ := h
  refine ⟨by rw [h8]; exact h1, h2, fun c hc => ?_⟩
  obtain ⟨t, a, b, e, f, p, hh⟩ := h3 c hc
  exact ⟨t, a, b, e, f, p, hh.keep (fun j hj => hk _ (by omega) (by omega))⟩
theorem faOk.keep {v w : vS} {F : Nat} (h : faOk v F) (hF : F ≤ 8) (hk : ∀ j, 26 ≤ j → j < 58 → w j = v j) : faOk w F := by
  intro f hf
  obtain ⟨l, y, h1, h2, h3, h4⟩ := h f hf
  exact ⟨l, y, by rw [hk _ (by omega) (by omega)]; exact h1, h2, by rw [hk _ (by omega) (by omega)]; exact h3, h4⟩
theorem tkOk.keep {v w : vS} {T : Nat} (h : tkOk v T) (hk : ∀ j, 58 ≤ j → j < 138 → w j = v j) : tkOk w T := by
  intro t ht
  obtain ⟨h1, h2⟩ := h t ht
  refine ⟨fun q => by rw [hk _ (by omega) (by omega)]; exact h1 q, fun q => ?_⟩
  rw [hk _ (by omega) (by omega)] at q
  obtain ⟨z, z1, z2⟩ := h2 q
  exact ⟨z, by rw [hk _ (by omega) (by omega)]; exact z1, z2⟩
theorem stOk.keep {v w : vS} {N : Nat} (h : stOk v N) (h10 : w 10 = v 10) (hk : ∀ j, 14 ≤ j → j < 26 → w j = v j) : stOk w N := by
  obtain ⟨⟨x, w1, w2⟩, ⟨b0, b1, b2, x0, x1, x2, x3⟩, hs⟩ := h
  refine ⟨⟨x, by rw [h10]; exact w1, w2⟩, ⟨b0, b1, b2, by rw [hk 14 (by omega) (by omega)]; exact x0, by rw [hk 15 (by omega) (by omega)]; exact x1, by rw [hk 16 (by omega) (by omega)]; exact x2, x3⟩, fun i i1 i9 => ?_⟩
  obtain ⟨s, s1, s2⟩ := hs i i1 i9
  exact ⟨s, by rw [hk _ (by omega) (by omega)]; exact s1, s2⟩
theorem hrOk.keep {v w : vS} {T F : Nat} (h : hrOk v T F) (h0 : w 0 = v 0) (h7 : w 7 = v 7) (hk : ∀ j, 26 ≤ j → j < 138 → w j = v j) : hrOk w T F := by
  obtain ⟨h1, h2, h3, h4, h5, h6⟩ := h
  refine ⟨by rw [h0]; exact h1, h2, by rw [h7]; exact h3, h4, fun t ht => ?_, fun f hf => ?_⟩
  · obtain ⟨a, a1, a2⟩ := h5 t ht
    exact ⟨a, a1, by rw [hk _ (by omega) (by omega)]; exact a2⟩
  · obtain ⟨a, a1, a2, a3⟩ := h6 f hf
    exact ⟨a, a1, a2, by rw [hk _ (by omega) (by omega)]; exact a3⟩
/-- a truck comes back -/
theorem Inv.comes {v : vS} {T F C N t : Nat} (h : Inv v T F C N) (ht : t < 20) : Inv (comesF v t) T F C (N + 1) := by
  obtain ⟨h1, h2, h3, h4, h5, h6⟩ := h
  have g1 := h1.comes ht
  by_cases d1 : v (58 + 4 * t) ≤ 0
  · have e : comesF v t = v := by unfold comesF; rw [if_pos d1]
    rw [e]; exact Inv.mono ⟨h1, h2, h3, h4, h5, h6⟩ (by omega)
  by_cases d2 : ¬ v (60 + 4 * t) = v 6
  · have e : comesF v t = v := by unfold comesF; rw [if_neg d1, if_pos d2]
    rw [e]; exact Inv.mono ⟨h1, h2, h3, h4, h5, h6⟩ (by omega)
  obtain ⟨q1, q2, q3, q4, q5, q6⟩ := id h1
  obtain ⟨a, ha, ea⟩ := q5 t ht
  have ha0 : a ≠ 0 := fun z => d1 (by rw [ea, nI_le0 (by omega)]; exact z)
  have cf : nn (v (58 + 4 * t)) = a := by rw [ea]; exact nI_clamp (by omega)
  obtain ⟨x, hx1, hx9, ex⟩ := q6 (a - 1) (by omega)
  have cx : nn (nI x) = x := nI_clamp (by omega)
  have e : comesF v t = upd (upd (upd (upd v (16 + x) (v (16 + x) + v (59 + 4 * t))) (58 + 4 * t) 0) (59 + 4 * t) 0) (60 + 4 * t) 0 := by
    unfold comesF; rw [if_neg d1, if_neg d2, cf, ex, cx]
  rw [e] at g1 ⊢
  have key : ∀ j, j ≠ 16 + x → j ≠ 58 + 4 * t → j ≠ 59 + 4 * t → j ≠ 60 + 4 * t → upd (upd (upd (upd v (16 + x) (v (16 + x) + v (59 + 4 * t))) (58 + 4 * t) 0) (59 + 4 * t) 0) (60 + 4 * t) 0 j = v j := by
    intro j p1 p2 p3 p4
    rw [upd_n p4, upd_n p3, upd_n p2, upd_n p1]
  have kx : upd (upd (upd (upd v (16 + x) (v (16 + x) + v (59 + 4 * t))) (58 + 4 * t) 0) (59 + 4 * t) 0) (60 + 4 * t) 0 (16 + x) = v (16 + x) + v (59 + 4 * t) := by
    rw [upd_n (by omega), upd_n (by omega), upd_n (by omega), upd_s]
  have k58 : upd (upd (upd (upd v (16 + x) (v (16 + x) + v (59 + 4 * t))) (58 + 4 * t) 0) (59 + 4 * t) 0) (60 + 4 * t) 0 (58 + 4 * t) = 0 := by
    rw [upd_n (by omega), upd_n (by omega), upd_s]
  generalize upd (upd (upd (upd v (16 + x) (v (16 + x) + v (59 + 4 * t))) (58 + 4 * t) 0) (59 + 4 * t) 0) (60 + 4 * t) 0 = w at *
  obtain ⟨z, z1, z2⟩ := (h6 t ht).2 (fun q => ha0 (by rw [ea] at q; exact (nI_eq (by omega) (by omega)).mp q))
  obtain ⟨⟨y, w1, w2⟩, ⟨b0, b1, b2, x0, x1, x2, x3⟩, hs⟩ := h3
  refine ⟨g1, h2.keep (fun j j1 j5 => key j (by omega) (by omega) (by omega) (by omega)), ⟨⟨y, by rw [key _ (by omega) (by omega) (by omega) (by omega)]; exact w1, by omega⟩, ⟨b0, b1, b2, by rw [key _ (by omega) (by omega) (by omega) (by omega)]; exact x0, by rw [key _ (by omega) (by omega) (by omega) (by omega)]; exact x1, by rw [key _ (by omega) (by omega) (by omega) (by omega)]; exact x2, by omega⟩, fun i i1 i9 => ?_⟩, h4.keep (key _ (by omega) (by omega) (by omega) (by omega)) (fun j j1 j2 => key _ (by omega) (by omega) (by omega) (by omega)), h5.keep q4 (fun j j1 j2 => key _ (by omega) (by omega) (by omega) (by omega)), fun u hu => ?_⟩
  · obtain ⟨s, s1, s2⟩ := hs i i1 i9
    by_cases e : i = x
    · subst e
      exact ⟨s + z, by rw [kx, s1, z1, nI_add], by omega⟩
    · exact ⟨s, by rw [key _ (by omega) (by omega) (by omega) (by omega)]; exact s1, by omega⟩
  · by_cases e : u = t
    · subst e
      exact ⟨fun _ => k58, fun q => absurd k58 q⟩
    · obtain ⟨r1, r2⟩ := h6 u hu
      rw [key _ (by omega) (by omega) (by omega) (by omega), key _ (by omega) (by omega) (by omega) (by omega)]
      exact ⟨r1, r2⟩
/-- a truck goes -/
theorem Inv.goes {v : vS} {T F C N t : Nat} (h : Inv v T F C N) (ht : t < T) : Inv (goesF v t) T F C N := by
  obtain ⟨h1, h2, h3, h4, h5, h6⟩ := h
  obtain ⟨q1, q2, q3, q4, q5, q6⟩ := id h1
  have g1 := h1.goes (t := t) (by omega)
  have cF : nn (v 7) = F := by rw [q3]; exact nI_clamp (by omega)
  by_cases d1 : ¬ v (58 + 4 * t) = 0
  · have e : goesF v t = v := by unfold goesF; rw [if_pos d1]
    rw [e]; exact ⟨h1, h2, h3, h4, h5, h6⟩
  by_cases d2 : fulF v F = -6
  · have e : goesF v t = v := by unfold goesF; rw [if_neg d1, cF, if_pos d2]
    rw [e]; exact ⟨h1, h2, h3, h4, h5, h6⟩
  rcases fulF_cases v F with z | ⟨f, hf, z⟩
  · exact absurd z d2
  obtain ⟨l, y, l1, l2, y1, y2⟩ := h5 f hf
  obtain ⟨L, H, g, kk, o, s1, s1', -⟩ := id h2
  have cf : nn (nI f) = f := nI_clamp (by omega)
  have hw : (if v 1 ≤ v (26 + 4 * f) then v 1 else v (26 + 4 * f)) = nI (if L ≤ l then L else l) := by
    rw [s1, l1]
    by_cases c : L ≤ l
    · rw [if_pos c, if_pos ((nI_leI (by omega) (by omega)).mpr c)]
    · rw [if_neg c, if_neg (fun q => c ((nI_leI (by omega) (by omega)).mp q))]
  have hwl : (if L ≤ l then L else l) ≤ l ∧ (if L ≤ l then L else l) ≤ 40 := by split <;> omega
  generalize (if L ≤ l then L else l) = m at hw hwl
  have e : goesF v t = sendF v t f (nI m) := by
    unfold goesF; rw [if_neg d1, cF, if_neg d2, z, cf, hw]
  rw [e] at g1 ⊢
  unfold sendF at g1 ⊢
  have key : ∀ j, j ≠ 13 → j ≠ 26 + 4 * f → j ≠ 29 + 4 * f → j ≠ 58 + 4 * t → j ≠ 59 + 4 * t → j ≠ 60 + 4 * t → j ≠ 61 + 4 * t → upd (upd (upd (upd (upd (upd (upd v (26 + 4 * f) (v (26 + 4 * f) - nI m)) (29 + 4 * f) (v (29 + 4 * f) + nI m)) (58 + 4 * t) (nI f + 1)) (59 + 4 * t) (nI m)) (60 + 4 * t) (v 6 + v (28 + 4 * f))) (61 + 4 * t) (v (61 + 4 * t) + 1)) 13 (v 13 + v 5 * v (28 + 4 * f)) j = v j := by
    intro j p1 p2 p3 p4 p5 p6 p7
    rw [upd_n p1, upd_n p7, upd_n p6, upd_n p5, upd_n p4, upd_n p3, upd_n p2]
  have k26 : upd (upd (upd (upd (upd (upd (upd v (26 + 4 * f) (v (26 + 4 * f) - nI m)) (29 + 4 * f) (v (29 + 4 * f) + nI m)) (58 + 4 * t) (nI f + 1)) (59 + 4 * t) (nI m)) (60 + 4 * t) (v 6 + v (28 + 4 * f))) (61 + 4 * t) (v (61 + 4 * t) + 1)) 13 (v 13 + v 5 * v (28 + 4 * f)) (26 + 4 * f) = v (26 + 4 * f) - nI m := by
    rw [upd_n (by omega), upd_n (by omega), upd_n (by omega), upd_n (by omega), upd_n (by omega), upd_n (by omega), upd_s]
  have k59 : upd (upd (upd (upd (upd (upd (upd v (26 + 4 * f) (v (26 + 4 * f) - nI m)) (29 + 4 * f) (v (29 + 4 * f) + nI m)) (58 + 4 * t) (nI f + 1)) (59 + 4 * t) (nI m)) (60 + 4 * t) (v 6 + v (28 + 4 * f))) (61 + 4 * t) (v (61 + 4 * t) + 1)) 13 (v 13 + v 5 * v (28 + 4 * f)) (59 + 4 * t) = nI m := by
    rw [upd_n (by omega), upd_n (by omega), upd_n (by omega), upd_s]
  generalize upd (upd (upd (upd (upd (upd (upd v (26 + 4 * f) (v (26 + 4 * f) - nI m)) (29 + 4 * f) (v (29 + 4 * f) + nI m)) (58 + 4 * t) (nI f + 1)) (59 + 4 * t) (nI m)) (60 + 4 * t) (v 6 + v (28 + 4 * f))) (61 + 4 * t) (v (61 + 4 * t) + 1)) 13 (v 13 + v 5 * v (28 + 4 * f)) = w at *
  have keyl : ∀ j, j < 26 → j ≠ 13 → w j = v j := fun j j1 j2 => key j j2 (by omega) (by omega) (by omega) (by omega) (by omega) (by omega)
  refine ⟨g1, h2.keep (fun j j1 j5 => keyl j (by omega) (by omega)), h3.keep (keyl _ (by omega) (by omega)) (fun j j1 j2 => keyl _ (by omega) (by omega)), h4.keep (keyl _ (by omega) (by omega)) (fun j j1 j2 => key _ (by omega) (by omega) (by omega) (by omega) (by omega) (by omega) (by omega)), fun f2 hf2 => ?_, fun u hu => ?_⟩
  · by_cases e : f2 = f
    · subst e
      exact ⟨l - m, y, by rw [k26, l1, pk_sub hwl.1], by omega, by rw [key _ (by omega) (by omega) (by omega) (by omega) (by omega) (by omega) (by omega)]; exact y1, y2⟩
    · obtain ⟨l', y', r1, r2, r3, r4⟩ := h5 f2 hf2
      exact ⟨l', y', by rw [key _ (by omega) (by omega) (by omega) (by omega) (by omega) (by omega) (by omega)]; exact r1, r2, by rw [key _ (by omega) (by omega) (by omega) (by omega) (by omega) (by omega) (by omega)]; exact r3, r4⟩
  · by_cases e : u = t
    · subst e
      exact ⟨fun q => absurd q (by omega), fun _ => ⟨m, k59, hwl.2⟩⟩
    · obtain ⟨r1, r2⟩ := h6 u hu
      rw [key _ (by omega) (by omega) (by omega) (by omega) (by omega) (by omega) (by omega), key _ (by omega) (by omega) (by omega) (by omega) (by omega) (by omega) (by omega)]
      exact ⟨r1, r2⟩
