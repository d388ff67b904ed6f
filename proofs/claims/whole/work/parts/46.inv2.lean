/-! ===== the hour keeps what holds ===== -/
theorem crush_num : ∀ G, G < 10 → ∀ h, h < 10 → 1 ≤ G → 1 ≤ h → (10 - G) * (10 - h) + G * h ≤ 100 := by decide
theorem ten_sub {G : Nat} (h : G ≤ 10) : (10 : Int32) - nI G = nI (10 - G) := by rw [show (10 : Int32) = nI 10 from rfl, pk_sub h]
/-- what crushing m tonnes gives, in natural numbers -/
def fiN (m G h : Nat) : Nat := m * (10 - G) * (10 - h) / 100
def cuN (m G h : Nat) : Nat := m * G * h / 100
theorem fi_nI {m G h : Nat} (hm : m ≤ 200) (hG : 1 ≤ G ∧ G ≤ 9) (hh : 1 ≤ h ∧ h ≤ 9) : nI m * (10 - nI G) * (10 - nI h) / 100 = nI (fiN m G h) ∧ nI m * nI G * nI h / 100 = nI (cuN m G h) ∧ fiN m G h + cuN m G h ≤ m := by
  have k := crush_num G (by omega) h (by omega) hG.1 hh.1
  have a1 : m * (10 - G) * (10 - h) = m * ((10 - G) * (10 - h)) := Nat.mul_assoc _ _ _
  have a2 : m * G * h = m * (G * h) := Nat.mul_assoc _ _ _
  have a3 : m * ((10 - G) * (10 - h)) + m * (G * h) ≤ m * 100 := by rw [← Nat.mul_add]; exact Nat.mul_le_mul_left m k
  refine ⟨?_, ?_, ?_⟩
  · rw [ten_sub (by omega), ten_sub (by omega), pk_mul, pk_mul, show (100 : Int32) = nI 100 from rfl, pk_div (by omega) (by omega) (by omega)]; rfl
  · rw [pk_mul, pk_mul, show (100 : Int32) = nI 100 from rfl, pk_div (by omega) (by omega) (by omega)]; rfl
  · unfold fiN cuN; omega
/-- what no part of an hour touches but the clock -/
def kp (v w : vS) : Prop := ∀ j, (j ≤ 8 ∨ j = 11 ∨ j = 12 ∨ 138 ≤ j) → w j = v j
theorem kp.refl (v : vS) : kp v v := fun _ _ => rfl
theorem kp.trans {u v w : vS} (h : kp u v) (h2 : kp v w) : kp u w := fun j hj => (h2 j hj).trans (h j hj)
theorem kp_comes {v : vS} {T F t : Nat} (h : hrOk v T F) (ht : t < 20) : kp v (comesF v t) := by
  obtain ⟨h1, h2, h3, h4, h5, h6⟩ := h
  intro j hj
  unfold comesF
  split
  · rfl
  · split
    · rfl
    · rename_i d1 d2
      obtain ⟨a, ha, ea⟩ := h5 t ht
      have ha0 : a ≠ 0 := fun z => d1 (by rw [ea, nI_le0 (by omega)]; exact z)
      have cf : nn (v (58 + 4 * t)) = a := by rw [ea]; exact nI_clamp (by omega)
      obtain ⟨x, hx1, hx9, ex⟩ := h6 (a - 1) (by omega)
      have cx : nn (nI x) = x := nI_clamp (by omega)
      rw [cf, ex, cx, upd_n (by omega), upd_n (by omega), upd_n (by omega), upd_n (by omega)]
theorem kp_goes {v : vS} {T F t : Nat} (h : hrOk v T F) (ht : t < 20) : kp v (goesF v t) := by
  obtain ⟨h1, h2, h3, h4, h5, h6⟩ := h
  have cF : nn (v 7) = F := by rw [h3]; exact nI_clamp (by omega)
  intro j hj
  unfold goesF
  rw [cF]
  split
  · rfl
  · split
    · rfl
    · rename_i d1 d2
      rcases fulF_cases v F with z | ⟨f, hf, z⟩
      · exact absurd z d2
      · have cf : nn (nI f) = f := nI_clamp (by omega)
        rw [z, cf]
        unfold sendF
        rw [upd_n (by omega), upd_n (by omega), upd_n (by omega), upd_n (by omega), upd_n (by omega), upd_n (by omega), upd_n (by omega)]
theorem kp_crush {v : vS} {h : Nat} {g z : Int32} (h1 : 1 ≤ h) (h9 : h ≤ 9) : kp v (crushF v h g z) := by
  intro j hj
  unfold crushF
  rw [upd_n (by omega), upd_n (by omega), upd_n (by omega), upd_n (by omega), upd_n (by omega), upd_n (by omega)]
theorem Inv.crush {v : vS} {T F C N h s m G : Nat} (hv : Inv v T F C N) (hh : 1 ≤ h ∧ h ≤ 9) (hs : v (16 + h) = nI s) (hsN : s ≤ 40 * N) (hm : m ≤ s) (hm2 : m ≤ 200) (hG : 1 ≤ G ∧ G ≤ 9) : Inv (crushF v h (nI G) (nI m)) T F C (N + 1) := by
  obtain ⟨h1, h2, h3, h4, h5, h6⟩ := hv
  obtain ⟨n1, n2, n3⟩ := fi_nI hm2 hG hh
  obtain ⟨⟨y, w1, w2⟩, ⟨b0, b1, b2, x0, x1, x2, x3⟩, hst⟩ := h3
  have q4 := h1.2.2.2.1
  have hkp : kp v (crushF v h (nI G) (nI m)) := kp_crush hh.1 hh.2
  have hmh : m * h ≤ 200 * 9 := Nat.mul_le_mul hm2 hh.2
  have e : crushF v h (nI G) (nI m) = upd (upd (upd (upd (upd (upd v (16 + h) (nI (s - m))) 14 (nI (b0 + fiN m G h))) 15 (nI (b1 + (m - fiN m G h - cuN m G h)))) 16 (nI (b2 + cuN m G h))) 9 (v 9 + nI m)) 10 (nI (y + m * h)) := by
    unfold crushF
    rw [n1, n2, hs, x0, x1, x2, w1, pk_sub hm, nI_add, pk_sub (by omega), pk_sub (by omega), nI_add, nI_add, pk_mul, nI_add]
  have khi : ∀ j, 26 ≤ j → crushF v h (nI G) (nI m) j = v j := by
    intro j hj
    rw [e, upd_n (by omega), upd_n (by omega), upd_n (by omega), upd_n (by omega), upd_n (by omega), upd_n (by omega)]
  refine ⟨h1.keep (hkp _ (by omega)) (hkp _ (by omega)) (fun j j1 _ => khi j j1), h2.keep (fun j j1 j5 => hkp _ (by omega)), ⟨⟨y + m * h, by rw [e, upd_s], by omega⟩, ⟨b0 + fiN m G h, b1 + (m - fiN m G h - cuN m G h), b2 + cuN m G h, ?_, ?_, ?_, by omega⟩, fun i i1 i9 => ?_⟩, h4.keep (hkp _ (by omega)) (fun j j1 _ => khi j (by omega)), h5.keep q4 (fun j j1 _ => khi j j1), h6.keep (fun j j1 _ => khi j (by omega))⟩
  · rw [e, upd_n (by omega), upd_n (by omega), upd_n (by omega), upd_n (by omega), upd_s]
  · rw [e, upd_n (by omega), upd_n (by omega), upd_n (by omega), upd_s]
  · rw [e, upd_n (by omega), upd_n (by omega), upd_s]
  · obtain ⟨s2, r1, r2⟩ := hst i i1 i9
    by_cases ei : i = h
    · subst ei
      exact ⟨s - m, by rw [e, upd_n (by omega), upd_n (by omega), upd_n (by omega), upd_n (by omega), upd_n (by omega), upd_s], by omega⟩
    · exact ⟨s2, by rw [e, upd_n (by omega), upd_n (by omega), upd_n (by omega), upd_n (by omega), upd_n (by omega), upd_n (by omega)]; exact r1, by omega⟩
theorem Inv_crushL {T F C G : Nat} (hG : 1 ≤ G ∧ G ≤ 9) : ∀ (d h : Nat) (v : vS) (N l : Nat), Inv v T F C N → N + d ≤ 500000 → 1 ≤ h → h + d ≤ 10 → l ≤ 200 → Inv (crushL (nI G) d h v (nI l)) T F C (N + d) ∧ kp v (crushL (nI G) d h v (nI l))
  | 0, _, v, _, _, hv, _, _, _, _ => ⟨hv, kp.refl v⟩
  | d + 1, h, v, N, l, hv, hN, h1, h2, hl => by
    obtain ⟨s, s1, s2⟩ := hv.2.2.1.2.2 h h1 (by omega)
    have hw : (if nI l ≤ v (16 + h) then nI l else v (16 + h)) = nI (if l ≤ s then l else s) := by
      rw [s1]
      by_cases c : l ≤ s
      · rw [if_pos c, if_pos ((nI_leI (by omega) (by omega)).mpr c)]
      · rw [if_neg c, if_neg (fun q => c ((nI_leI (by omega) (by omega)).mp q))]
    have hm : (if l ≤ s then l else s) ≤ s ∧ (if l ≤ s then l else s) ≤ l := by split <;> omega
    unfold crushL
    rw [hw]
    generalize (if l ≤ s then l else s) = m at hm
    rw [pk_sub hm.2]
    have hv2 := hv.crush ⟨h1, by omega⟩ s1 s2 hm.1 (by omega) hG
    obtain ⟨r1, r2⟩ := Inv_crushL hG d (h + 1) _ (N + 1) (l - m) hv2 (by omega) (by omega) (by omega) (by omega)
    refine ⟨?_, (kp_crush h1 (by omega)).trans r2⟩
    rw [show N + (d + 1) = N + 1 + d from by omega]
    exact r1
theorem cap_nI {v : vS} {T F C N : Nat} (hv : Inv v T F C N) (hN : N ≤ 500000) : ∃ l, capF v = nI l ∧ 1 ≤ l ∧ l ≤ 200 := by
  obtain ⟨L, H, g, k, o, -, -, -, -, -, -, k1, k2, -⟩ := hv.2.1
  obtain ⟨⟨w, w1, w2⟩, -⟩ := hv.2.2.1
  unfold capF
  rw [k1, w1, show (1000 : Int32) = nI 1000 from rfl, pk_div (by omega) (by omega) (by omega)]
  by_cases c : (1 : Int32) ≤ nI k - nI (w / 1000)
  · rw [if_pos c]
    have h1 := pk_sub_toInt (a := k) (b := w / 1000) (by omega) (by omega)
    rw [le_I, h1] at c
    have c1 : ((1 : Int32)).toInt = 1 := by decide
    rw [c1] at c
    exact ⟨k - w / 1000, pk_sub (by omega), by omega, by omega⟩
  · rw [if_neg c]
    exact ⟨1, rfl, by omega, by omega⟩
theorem Inv_comesL {T F C : Nat} : ∀ (d t : Nat) (v : vS) (N : Nat), Inv v T F C N → t + d ≤ 20 → Inv (comesL d t v) T F C (N + d) ∧ kp v (comesL d t v)
  | 0, _, v, _, hv, _ => ⟨hv, kp.refl v⟩
  | d + 1, t, v, N, hv, ht => by
    obtain ⟨r1, r2⟩ := Inv_comesL d (t + 1) _ (N + 1) (hv.comes (t := t) (by omega)) (by omega)
    refine ⟨?_, (kp_comes hv.1 (by omega)).trans r2⟩
    rw [show N + (d + 1) = N + 1 + d from by omega]
    exact r1
theorem Inv_goesL {T F C : Nat} : ∀ (d t : Nat) (v : vS) (N : Nat), Inv v T F C N → t + d ≤ T → Inv (goesL d t v) T F C N ∧ kp v (goesL d t v)
  | 0, _, v, _, hv, _ => ⟨hv, kp.refl v⟩
  | d + 1, t, v, N, hv, ht => by
    have hT := hv.1.2.1
    obtain ⟨r1, r2⟩ := Inv_goesL d (t + 1) _ N (hv.goes (t := t) (by omega)) (by omega)
    exact ⟨r1, (kp_goes hv.1 (by omega)).trans r2⟩
theorem Inv.clock {v : vS} {T F C N : Nat} {x : Int32} (hv : Inv v T F C N) : Inv (upd v 6 x) T F C N := by
  obtain ⟨h1, h2, h3, h4, h5, h6⟩ := hv
  exact ⟨h1.keep (upd_n (by omega)) (upd_n (by omega)) (fun j _ _ => upd_n (by omega)), h2.keep (fun j _ _ => upd_n (by omega)), h3.keep (upd_n (by omega)) (fun j _ _ => upd_n (by omega)), h4.keep (upd_n (by omega)) (fun j _ _ => upd_n (by omega)), h5.keep h1.2.2.2.1 (fun j _ _ => upd_n (by omega)), h6.keep (fun j _ _ => upd_n (by omega))⟩
/-- an hour -/
theorem Inv.hour {v : vS} {T F C N : Nat} (hv : Inv v T F C N) (hN : N + 29 ≤ 500000) : Inv (hourF v) T F C (N + 29) ∧ (∀ j, (j ≤ 8 ∨ j = 11 ∨ j = 12 ∨ 138 ≤ j) → j ≠ 6 → hourF v j = v j) ∧ hourF v 6 = v 6 + 1 := by
  have hT := hv.1.2.1
  have cT : nn (v 0) = T := by rw [hv.1.1]; exact nI_clamp (by omega)
  obtain ⟨a1, a2⟩ := Inv_comesL T 0 v N hv (by omega)
  obtain ⟨b1, b2⟩ := Inv_goesL T 0 _ (N + T) a1 (by omega)
  obtain ⟨l, l1, l2, l3⟩ := cap_nI b1 (by omega)
  obtain ⟨L, H, g, k, o, -, -, -, -, g1, g2, -⟩ := b1.2.1
  obtain ⟨c1, c2⟩ := Inv_crushL g2 9 1 _ (N + T) l b1 (by omega) (by omega) (by omega) l3
  have e : hourF v = upd (crushL (nI g) 9 1 (goesL T 0 (comesL T 0 v)) (nI l)) 6 (crushL (nI g) 9 1 (goesL T 0 (comesL T 0 v)) (nI l) 6 + 1) := by
    unfold hourF; rw [cT]; simp only []; rw [g1, l1]
  have kk := (a2.trans b2).trans c2
  rw [e]
  refine ⟨(c1.mono (by omega)).clock, fun j hj h6 => by rw [upd_n h6]; exact kk j hj, by rw [upd_s, kk 6 (by omega)]⟩
