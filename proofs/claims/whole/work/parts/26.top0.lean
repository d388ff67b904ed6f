abbrev rmX1_copyFrom : Room := { frames := 2, cells := 0, slots := 0, locals := 39 }
theorem lX1_copyFrom_f19 : Cond.fieldLink RX1 19 "QuarryBlends$Contracts" "amount" "I" ∈ wsX1_copyFrom := by decide +kernel
theorem lX1_copyFrom_f9 : Cond.fieldLink RX1 9 "QuarryBlends$Contracts" "terms" "[I" ∈ wsX1_copyFrom := by decide +kernel
theorem lX1_copyFrom_nX9 : Cond.initialized RX9 ∈ wsX1_copyFrom := by decide +kernel
theorem lX1_copyFrom_scp : Cond.static yX9_copyAll ∈ wsX1_copyFrom := by decide +kernel
theorem iX1_copyFrom_X1 : ∀ w ∈ wsX10, w ∈ wsX1_copyFrom := by decide +kernel
set_option maxHeartbeats 4000000 in
set_option maxRecDepth 100000 in
theorem mX1_copyFrom (l : Launch) (G : qG) (k : qS → qS → Prop) (R : va_W) (a : Nat → Nat) (b : Nat → Nat) (q : qS) (o : qS) (sz : Nat) : Met l yX1_copyFrom wsX1_copyFrom rmX1_copyFrom (qPc G [.ref (a 16), .ref (b 16)] (wQ G a q ++ (wQ G b o ++ R)) sz (wX1_copyFrom k q o)) (qQv G (wQ G a q ++ (wQ G b o ++ R)) sz (fun (u : qS × qS) => k u.1 u.2) (fun (u : qS × qS) => wQ G a u.1 ++ (wQ G b u.2 ++ R))) 0 0 (va_A (wQ G a q ++ (wQ G b o ++ R)) sz) := by
  refine Met.ofW (cc := cX1_copyFrom) (maxL := 2) (ret := none) (by decide) rfl ?_
  intro p e s m args below meth c s₁ B hml hv
  obtain ⟨rfl, hsz, hP, hD0, hKn0, h⟩ := hv
  have hx := B.exec
  have hb := B.bytes
  have hr := B.returns
  have hts := atoms_spec (ws := wsX1_copyFrom) B.pre
  have hown : s.vm.findClass RX1 = some m.cls := findClass_of_methodNamed B.named
  have hlocks := B.notSynchronized
  subst hsz
  have hD := hD0.self (sz := s.heap.size)
  generalize hAe : va_A (wQ G a q ++ (wQ G b o ++ R)) s.heap.size = A at hD hKn0 ⊢
  have hA : ∀ q : Nat, s.heap.size ≤ q → A q := fun q h => by rw [← hAe]; exact Or.inr h
  have hKn : qKn G A s s.heap := hKn0
  have hS : va_S A s.heap s.heap [] := va_S.rf
  have hret : ∀ (q' : qS) (o' : qS) (H : Heap) (locs : List Loc) (ls : Array Slot) (pc : Nat), k q' o' → va_P G.1 vwCl (wQ G a q' ++ (wQ G b o' ++ R)) H → va_D A (wQ G a q' ++ (wQ G b o' ++ R)) → va_S A s.heap H locs → decode cX1_copyFrom pc = .ok (.return_, 1) → W p l e rmX1_copyFrom s m #[.ref (a 16), .ref (b 16)] below meth c H locs 0 0 (MQ below (qQv G (wQ G a q ++ (wQ G b o ++ R)) s.heap.size (fun (u : qS × qS) => k u.1 u.2) (fun (u : qS × qS) => wQ G a u.1 ++ (wQ G b u.2 ++ R))) #[.ref (a 16), .ref (b 16)] s 0 0 A) (F0 m pc ls []) := fun q' o' H locs ls pc hk hP hD hS hd => W.vret hx hb hr (fun t ht hW => q_rv (u := (⟨q', o'⟩ : qS × qS)) hAe hk hP hD hS ht) hS.2.2 hd
  have hl := lv_entry ([.ref (a 16), .ref (b 16)]) (n := 2) (Nat.le_of_ble_eq_true rfl)
  rw [lg_entry_eq]
  generalize (lg_sl ([.ref (a 16), .ref (b 16)]) ++ List.replicate (2 - (lg_sl ([.ref (a 16), .ref (b 16)])).length) Slot.unset).toArray = ls at hl ⊢
  have hl : lv_has ls 2 [(0, .ref (a 16)), (1, .ref (b 16))] := hl
  unfold wX1_copyFrom at h
  show W p l e rmX1_copyFrom s m #[.ref (a 16), .ref (b 16)] below meth c s.heap [] 0 0 _ _
  refine lv_aload_n hx hb dX1_copyFrom_0 rfl (lv_at hl 1 rfl) ?_
  refine va_get (D := G.1) (ci := 1) (v := .ref (b 12)) (C := RX1) (T := TX1) (N := 2) hx hb hts iX1_copyFrom_X1 hown hKn.k hP 33 rfl rfl 0 (by decide) (hts _ lX1_copyFrom_f9) (fun _ h9 => h9) rfl dX1_copyFrom_1 ?_
  refine lv_aload_n hx hb dX1_copyFrom_4 rfl (lv_at hl 0 rfl) ?_
  refine va_get (D := G.1) (ci := 1) (v := .ref (a 12)) (C := RX1) (T := TX1) (N := 2) hx hb hts iX1_copyFrom_X1 hown hKn.k hP 15 rfl rfl 0 (by decide) (hts _ lX1_copyFrom_f9) (fun _ h9 => h9) rfl dX1_copyFrom_5 ?_
  refine qc_nv (As := [.ref (b 12), .ref (a 12)]) (rest := []) ⟨hx, hb, hml, hown, hts⟩ (m_copyAll l G (wQ G a q ++ (wQ G b o ++ R)) 34 16 72 _ (by decide) rfl rfl) ⟨va_cnB 2 hts gX1_copyFrom_X9_copyAll_n15 rfl rfl rfl (hKn.2.1 _ (List.mem_of_getElem? (i := 13) rfl)) (hts _ lX1_copyFrom_nX9) (by decide +kernel) ⟨Nat.le_of_ble_eq_true rfl, Nat.le_of_ble_eq_true rfl⟩, (hts _ lX1_copyFrom_scp), trivial⟩ hP hD hS hA hKn trivial rfl hl.1 rfl (Nat.le_of_ble_eq_true rfl) dX1_copyFrom_8 ⟨Nat.zero_le _, Nat.zero_le _⟩ (fun _ H locs _ hP hD hS => ?_)
  obtain ⟨q1, eq1⟩ : ∃ z : qS, z = upA q 12 (va_cpy (o 12) (q 12) 0 0 72) := ⟨_, rfl⟩
  have hP : va_P G.1 vwCl (wQ G a q1 ++ (wQ G b o ++ R)) H := by rw [eq1]; exact hP
  have hD : va_D A (wQ G a q1 ++ (wQ G b o ++ R)) := by rw [eq1]; exact hD
  have h := h q1 eq1
  refine lv_aload_n hx hb dX1_copyFrom_11 rfl (lv_at hl 0 rfl) ?_
  refine lv_aload_n hx hb dX1_copyFrom_12 rfl (lv_at hl 1 rfl) ?_
  refine va_get (D := G.1) (ci := 1) (v := .int (o 0 5)) (C := RX1) (T := TX1) (N := 2) hx hb hts iX1_copyFrom_X1 hown hKn.k hP 33 rfl rfl 1 (by decide) (hts _ lX1_copyFrom_f19) (fun _ h9 => h9) rfl dX1_copyFrom_13 ?_
  refine lv_topi (fun y2 ey2 => ?_)
  have h := h y2 ey2
  refine va_put (D := G.1) (ci := 1) (v := .int y2) (ty := .int) (C := RX1) (T := TX1) (N := 2) hx hb hts iX1_copyFrom_X1 tyX1 tyX1_ok nmX1 hown hKn.k hP hD hS 15 rfl rfl 1 (by decide) (hts _ lX1_copyFrom_f19) (fun _ h9 => h9) rfl (by decide +kernel) rfl rfl (Nat.le_of_ble_eq_true rfl) dX1_copyFrom_16 (fun H locs hP hD hS => ?_)
  obtain ⟨q3, eq3⟩ : ∃ z : qS, z = up2 q1 0 5 y2 := ⟨_, rfl⟩
  have hP : va_P G.1 vwCl (wQ G a q3 ++ (wQ G b o ++ R)) H := by rw [eq3]; exact hP
  have hD : va_D A (wQ G a q3 ++ (wQ G b o ++ R)) := by rw [eq3]; exact hD
  have h := h q3 eq3
  exact hret _ _ _ _ _ _ h hP hD hS dX1_copyFrom_19
abbrev rmX2_copyFrom : Room := { frames := 2, cells := 0, slots := 0, locals := 39 }
theorem lX2_copyFrom_f15 : Cond.fieldLink RX2 15 "QuarryBlends$Crusher" "bins" "[I" ∈ wsX2_copyFrom := by decide +kernel
theorem lX2_copyFrom_f22 : Cond.fieldLink RX2 22 "QuarryBlends$Crusher" "wear" "I" ∈ wsX2_copyFrom := by decide +kernel
theorem lX2_copyFrom_f26 : Cond.fieldLink RX2 26 "QuarryBlends$Crusher" "crushed" "I" ∈ wsX2_copyFrom := by decide +kernel
theorem lX2_copyFrom_f9 : Cond.fieldLink RX2 9 "QuarryBlends$Crusher" "uncrushed" "[I" ∈ wsX2_copyFrom := by decide +kernel
theorem lX2_copyFrom_nX9 : Cond.initialized RX9 ∈ wsX2_copyFrom := by decide +kernel
theorem lX2_copyFrom_scp : Cond.static yX9_copyAll ∈ wsX2_copyFrom := by decide +kernel
theorem iX2_copyFrom_X2 : ∀ w ∈ wsX20, w ∈ wsX2_copyFrom := by decide +kernel
set_option maxHeartbeats 4000000 in
set_option maxRecDepth 100000 in
theorem mX2_copyFrom (l : Launch) (G : qG) (k : qS → qS → Prop) (R : va_W) (a : Nat → Nat) (b : Nat → Nat) (q : qS) (o : qS) (sz : Nat) : Met l yX2_copyFrom wsX2_copyFrom rmX2_copyFrom (qPc G [.ref (a 15), .ref (b 15)] (wQ G a q ++ (wQ G b o ++ R)) sz (wX2_copyFrom k q o)) (qQv G (wQ G a q ++ (wQ G b o ++ R)) sz (fun (u : qS × qS) => k u.1 u.2) (fun (u : qS × qS) => wQ G a u.1 ++ (wQ G b u.2 ++ R))) 0 0 (va_A (wQ G a q ++ (wQ G b o ++ R)) sz) := by
  refine Met.ofW (cc := cX2_copyFrom) (maxL := 2) (ret := none) (by decide) rfl ?_
  intro p e s m args below meth c s₁ B hml hv
  obtain ⟨rfl, hsz, hP, hD0, hKn0, h⟩ := hv
  have hx := B.exec
  have hb := B.bytes
  have hr := B.returns
  have hts := atoms_spec (ws := wsX2_copyFrom) B.pre
  have hown : s.vm.findClass RX2 = some m.cls := findClass_of_methodNamed B.named
  have hlocks := B.notSynchronized
  subst hsz
  have hD := hD0.self (sz := s.heap.size)
  generalize hAe : va_A (wQ G a q ++ (wQ G b o ++ R)) s.heap.size = A at hD hKn0 ⊢
  have hA : ∀ q : Nat, s.heap.size ≤ q → A q := fun q h => by rw [← hAe]; exact Or.inr h
  have hKn : qKn G A s s.heap := hKn0
  have hS : va_S A s.heap s.heap [] := va_S.rf
  have hret : ∀ (q' : qS) (o' : qS) (H : Heap) (locs : List Loc) (ls : Array Slot) (pc : Nat), k q' o' → va_P G.1 vwCl (wQ G a q' ++ (wQ G b o' ++ R)) H → va_D A (wQ G a q' ++ (wQ G b o' ++ R)) → va_S A s.heap H locs → decode cX2_copyFrom pc = .ok (.return_, 1) → W p l e rmX2_copyFrom s m #[.ref (a 15), .ref (b 15)] below meth c H locs 0 0 (MQ below (qQv G (wQ G a q ++ (wQ G b o ++ R)) s.heap.size (fun (u : qS × qS) => k u.1 u.2) (fun (u : qS × qS) => wQ G a u.1 ++ (wQ G b u.2 ++ R))) #[.ref (a 15), .ref (b 15)] s 0 0 A) (F0 m pc ls []) := fun q' o' H locs ls pc hk hP hD hS hd => W.vret hx hb hr (fun t ht hW => q_rv (u := (⟨q', o'⟩ : qS × qS)) hAe hk hP hD hS ht) hS.2.2 hd
  have hl := lv_entry ([.ref (a 15), .ref (b 15)]) (n := 2) (Nat.le_of_ble_eq_true rfl)
  rw [lg_entry_eq]
  generalize (lg_sl ([.ref (a 15), .ref (b 15)]) ++ List.replicate (2 - (lg_sl ([.ref (a 15), .ref (b 15)])).length) Slot.unset).toArray = ls at hl ⊢
  have hl : lv_has ls 2 [(0, .ref (a 15)), (1, .ref (b 15))] := hl
  unfold wX2_copyFrom at h
  show W p l e rmX2_copyFrom s m #[.ref (a 15), .ref (b 15)] below meth c s.heap [] 0 0 _ _
  refine lv_aload_n hx hb dX2_copyFrom_0 rfl (lv_at hl 1 rfl) ?_
  refine va_get (D := G.1) (ci := 2) (v := .ref (b 10)) (C := RX2) (T := TX2) (N := 4) hx hb hts iX2_copyFrom_X2 hown hKn.k hP 30 rfl rfl 0 (by decide) (hts _ lX2_copyFrom_f9) (fun _ h9 => h9) rfl dX2_copyFrom_1 ?_
  refine lv_aload_n hx hb dX2_copyFrom_4 rfl (lv_at hl 0 rfl) ?_
  refine va_get (D := G.1) (ci := 2) (v := .ref (a 10)) (C := RX2) (T := TX2) (N := 4) hx hb hts iX2_copyFrom_X2 hown hKn.k hP 12 rfl rfl 0 (by decide) (hts _ lX2_copyFrom_f9) (fun _ h9 => h9) rfl dX2_copyFrom_5 ?_
  refine qc_nv (As := [.ref (b 10), .ref (a 10)]) (rest := []) ⟨hx, hb, hml, hown, hts⟩ (m_copyAll l G (wQ G a q ++ (wQ G b o ++ R)) 31 13 10 _ (by decide) rfl rfl) ⟨va_cnB 2 hts gX2_copyFrom_X9_copyAll_n18 rfl rfl rfl (hKn.2.1 _ (List.mem_of_getElem? (i := 12) rfl)) (hts _ lX2_copyFrom_nX9) (by decide +kernel) ⟨Nat.le_of_ble_eq_true rfl, Nat.le_of_ble_eq_true rfl⟩, (hts _ lX2_copyFrom_scp), trivial⟩ hP hD hS hA hKn trivial rfl hl.1 rfl (Nat.le_of_ble_eq_true rfl) dX2_copyFrom_8 ⟨Nat.zero_le _, Nat.zero_le _⟩ (fun _ H locs _ hP hD hS => ?_)
  obtain ⟨q1, eq1⟩ : ∃ z : qS, z = upA q 10 (va_cpy (o 10) (q 10) 0 0 10) := ⟨_, rfl⟩
  have hP : va_P G.1 vwCl (wQ G a q1 ++ (wQ G b o ++ R)) H := by rw [eq1]; exact hP
  have hD : va_D A (wQ G a q1 ++ (wQ G b o ++ R)) := by rw [eq1]; exact hD
  have h := h q1 eq1
  refine lv_aload_n hx hb dX2_copyFrom_11 rfl (lv_at hl 1 rfl) ?_
  refine va_get (D := G.1) (ci := 2) (v := .ref (b 11)) (C := RX2) (T := TX2) (N := 4) hx hb hts iX2_copyFrom_X2 hown hKn.k hP 30 rfl rfl 1 (by decide) (hts _ lX2_copyFrom_f15) (fun _ h9 => h9) rfl dX2_copyFrom_12 ?_
  refine lv_aload_n hx hb dX2_copyFrom_15 rfl (lv_at hl 0 rfl) ?_
  refine va_get (D := G.1) (ci := 2) (v := .ref (a 11)) (C := RX2) (T := TX2) (N := 4) hx hb hts iX2_copyFrom_X2 hown hKn.k hP 12 rfl rfl 1 (by decide) (hts _ lX2_copyFrom_f15) (fun _ h9 => h9) rfl dX2_copyFrom_16 ?_
  refine qc_nv (As := [.ref (b 11), .ref (a 11)]) (rest := []) ⟨hx, hb, hml, hown, hts⟩ (m_copyAll l G (wQ G a q1 ++ (wQ G b o ++ R)) 32 14 3 _ (by decide) rfl rfl) ⟨va_cnB 2 hts gX2_copyFrom_X9_copyAll_n18 rfl rfl rfl (hKn.2.1 _ (List.mem_of_getElem? (i := 12) rfl)) (hts _ lX2_copyFrom_nX9) (by decide +kernel) ⟨Nat.le_of_ble_eq_true rfl, Nat.le_of_ble_eq_true rfl⟩, (hts _ lX2_copyFrom_scp), trivial⟩ hP hD hS hA hKn trivial rfl hl.1 rfl (Nat.le_of_ble_eq_true rfl) dX2_copyFrom_19 ⟨Nat.zero_le _, Nat.zero_le _⟩ (fun _ H locs _ hP hD hS => ?_)
  obtain ⟨q2, eq2⟩ : ∃ z : qS, z = upA q1 11 (va_cpy (o 11) (q1 11) 0 0 3) := ⟨_, rfl⟩
  have hP : va_P G.1 vwCl (wQ G a q2 ++ (wQ G b o ++ R)) H := by rw [eq2]; exact hP
  have hD : va_D A (wQ G a q2 ++ (wQ G b o ++ R)) := by rw [eq2]; exact hD
  have h := h q2 eq2
  refine lv_aload_n hx hb dX2_copyFrom_22 rfl (lv_at hl 0 rfl) ?_
  refine lv_aload_n hx hb dX2_copyFrom_23 rfl (lv_at hl 1 rfl) ?_
  refine va_get (D := G.1) (ci := 2) (v := .int (o 0 6)) (C := RX2) (T := TX2) (N := 4) hx hb hts iX2_copyFrom_X2 hown hKn.k hP 30 rfl rfl 2 (by decide) (hts _ lX2_copyFrom_f22) (fun _ h9 => h9) rfl dX2_copyFrom_24 ?_
  refine lv_topi (fun y3 ey3 => ?_)
  have h := h y3 ey3
  refine va_put (D := G.1) (ci := 2) (v := .int y3) (ty := .int) (C := RX2) (T := TX2) (N := 4) hx hb hts iX2_copyFrom_X2 tyX2 tyX2_ok nmX2 hown hKn.k hP hD hS 12 rfl rfl 2 (by decide) (hts _ lX2_copyFrom_f22) (fun _ h9 => h9) rfl (by decide +kernel) rfl rfl (Nat.le_of_ble_eq_true rfl) dX2_copyFrom_27 (fun H locs hP hD hS => ?_)
  obtain ⟨q4, eq4⟩ : ∃ z : qS, z = up2 q2 0 6 y3 := ⟨_, rfl⟩
  have hP : va_P G.1 vwCl (wQ G a q4 ++ (wQ G b o ++ R)) H := by rw [eq4]; exact hP
  have hD : va_D A (wQ G a q4 ++ (wQ G b o ++ R)) := by rw [eq4]; exact hD
  have h := h q4 eq4
  refine lv_aload_n hx hb dX2_copyFrom_30 rfl (lv_at hl 0 rfl) ?_
  refine lv_aload_n hx hb dX2_copyFrom_31 rfl (lv_at hl 1 rfl) ?_
  refine va_get (D := G.1) (ci := 2) (v := .int (o 0 7)) (C := RX2) (T := TX2) (N := 4) hx hb hts iX2_copyFrom_X2 hown hKn.k hP 30 rfl rfl 3 (by decide) (hts _ lX2_copyFrom_f26) (fun _ h9 => h9) rfl dX2_copyFrom_32 ?_
  refine lv_topi (fun y5 ey5 => ?_)
  have h := h y5 ey5
  refine va_put (D := G.1) (ci := 2) (v := .int y5) (ty := .int) (C := RX2) (T := TX2) (N := 4) hx hb hts iX2_copyFrom_X2 tyX2 tyX2_ok nmX2 hown hKn.k hP hD hS 12 rfl rfl 3 (by decide) (hts _ lX2_copyFrom_f26) (fun _ h9 => h9) rfl (by decide +kernel) rfl rfl (Nat.le_of_ble_eq_true rfl) dX2_copyFrom_35 (fun H locs hP hD hS => ?_)
  obtain ⟨q6, eq6⟩ : ∃ z : qS, z = up2 q4 0 7 y5 := ⟨_, rfl⟩
  have hP : va_P G.1 vwCl (wQ G a q6 ++ (wQ G b o ++ R)) H := by rw [eq6]; exact hP
  have hD : va_D A (wQ G a q6 ++ (wQ G b o ++ R)) := by rw [eq6]; exact hD
  have h := h q6 eq6
  exact hret _ _ _ _ _ _ h hP hD hS dX2_copyFrom_38
abbrev rmX3_copyFrom : Room := { frames := 2, cells := 0, slots := 0, locals := 39 }
theorem lX3_copyFrom_f15 : Cond.fieldLink RX3 15 "QuarryBlends$Faces" "taken" "[I" ∈ wsX3_copyFrom := by decide +kernel
theorem lX3_copyFrom_f18 : Cond.fieldLink RX3 18 "QuarryBlends$Faces" "hardness" "[I" ∈ wsX3_copyFrom := by decide +kernel
theorem lX3_copyFrom_f21 : Cond.fieldLink RX3 21 "QuarryBlends$Faces" "way" "[I" ∈ wsX3_copyFrom := by decide +kernel
theorem lX3_copyFrom_f28 : Cond.fieldLink RX3 28 "QuarryBlends$Faces" "amount" "I" ∈ wsX3_copyFrom := by decide +kernel
theorem lX3_copyFrom_f9 : Cond.fieldLink RX3 9 "QuarryBlends$Faces" "left" "[I" ∈ wsX3_copyFrom := by decide +kernel
theorem lX3_copyFrom_nX9 : Cond.initialized RX9 ∈ wsX3_copyFrom := by decide +kernel
theorem lX3_copyFrom_scp : Cond.static yX9_copyAll ∈ wsX3_copyFrom := by decide +kernel
theorem iX3_copyFrom_X3 : ∀ w ∈ wsX30, w ∈ wsX3_copyFrom := by decide +kernel
set_option maxHeartbeats 4000000 in
set_option maxRecDepth 100000 in
theorem mX3_copyFrom (l : Launch) (G : qG) (k : qS → qS → Prop) (R : va_W) (a : Nat → Nat) (b : Nat → Nat) (q : qS) (o : qS) (sz : Nat) : Met l yX3_copyFrom wsX3_copyFrom rmX3_copyFrom (qPc G [.ref (a 13), .ref (b 13)] (wQ G a q ++ (wQ G b o ++ R)) sz (wX3_copyFrom k q o)) (qQv G (wQ G a q ++ (wQ G b o ++ R)) sz (fun (u : qS × qS) => k u.1 u.2) (fun (u : qS × qS) => wQ G a u.1 ++ (wQ G b u.2 ++ R))) 0 0 (va_A (wQ G a q ++ (wQ G b o ++ R)) sz) := by
  refine Met.ofW (cc := cX3_copyFrom) (maxL := 2) (ret := none) (by decide) rfl ?_
  intro p e s m args below meth c s₁ B hml hv
  obtain ⟨rfl, hsz, hP, hD0, hKn0, h⟩ := hv
  have hx := B.exec
  have hb := B.bytes
  have hr := B.returns
  have hts := atoms_spec (ws := wsX3_copyFrom) B.pre
  have hown : s.vm.findClass RX3 = some m.cls := findClass_of_methodNamed B.named
  have hlocks := B.notSynchronized
  subst hsz
  have hD := hD0.self (sz := s.heap.size)
  generalize hAe : va_A (wQ G a q ++ (wQ G b o ++ R)) s.heap.size = A at hD hKn0 ⊢
  have hA : ∀ q : Nat, s.heap.size ≤ q → A q := fun q h => by rw [← hAe]; exact Or.inr h
  have hKn : qKn G A s s.heap := hKn0
  have hS : va_S A s.heap s.heap [] := va_S.rf
  have hret : ∀ (q' : qS) (o' : qS) (H : Heap) (locs : List Loc) (ls : Array Slot) (pc : Nat), k q' o' → va_P G.1 vwCl (wQ G a q' ++ (wQ G b o' ++ R)) H → va_D A (wQ G a q' ++ (wQ G b o' ++ R)) → va_S A s.heap H locs → decode cX3_copyFrom pc = .ok (.return_, 1) → W p l e rmX3_copyFrom s m #[.ref (a 13), .ref (b 13)] below meth c H locs 0 0 (MQ below (qQv G (wQ G a q ++ (wQ G b o ++ R)) s.heap.size (fun (u : qS × qS) => k u.1 u.2) (fun (u : qS × qS) => wQ G a u.1 ++ (wQ G b u.2 ++ R))) #[.ref (a 13), .ref (b 13)] s 0 0 A) (F0 m pc ls []) := fun q' o' H locs ls pc hk hP hD hS hd => W.vret hx hb hr (fun t ht hW => q_rv (u := (⟨q', o'⟩ : qS × qS)) hAe hk hP hD hS ht) hS.2.2 hd
  have hl := lv_entry ([.ref (a 13), .ref (b 13)]) (n := 2) (Nat.le_of_ble_eq_true rfl)
  rw [lg_entry_eq]
  generalize (lg_sl ([.ref (a 13), .ref (b 13)]) ++ List.replicate (2 - (lg_sl ([.ref (a 13), .ref (b 13)])).length) Slot.unset).toArray = ls at hl ⊢
  have hl : lv_has ls 2 [(0, .ref (a 13)), (1, .ref (b 13))] := hl
  unfold wX3_copyFrom at h
  show W p l e rmX3_copyFrom s m #[.ref (a 13), .ref (b 13)] below meth c s.heap [] 0 0 _ _
  refine lv_aload_n hx hb dX3_copyFrom_0 rfl (lv_at hl 1 rfl) ?_
  refine va_get (D := G.1) (ci := 3) (v := .ref (b 2)) (C := RX3) (T := TX3) (N := 5) hx hb hts iX3_copyFrom_X3 hown hKn.k hP 20 rfl rfl 0 (by decide) (hts _ lX3_copyFrom_f9) (fun _ h9 => h9) rfl dX3_copyFrom_1 ?_
  refine lv_aload_n hx hb dX3_copyFrom_4 rfl (lv_at hl 0 rfl) ?_
  refine va_get (D := G.1) (ci := 3) (v := .ref (a 2)) (C := RX3) (T := TX3) (N := 5) hx hb hts iX3_copyFrom_X3 hown hKn.k hP 2 rfl rfl 0 (by decide) (hts _ lX3_copyFrom_f9) (fun _ h9 => h9) rfl dX3_copyFrom_5 ?_
  refine qc_nv (As := [.ref (b 2), .ref (a 2)]) (rest := []) ⟨hx, hb, hml, hown, hts⟩ (m_copyAll l G (wQ G a q ++ (wQ G b o ++ R)) 21 3 8 _ (by decide) rfl rfl) ⟨va_cnB 2 hts gX3_copyFrom_X9_copyAll_n24 rfl rfl rfl (hKn.2.1 _ (List.mem_of_getElem? (i := 10) rfl)) (hts _ lX3_copyFrom_nX9) (by decide +kernel) ⟨Nat.le_of_ble_eq_true rfl, Nat.le_of_ble_eq_true rfl⟩, (hts _ lX3_copyFrom_scp), trivial⟩ hP hD hS hA hKn trivial rfl hl.1 rfl (Nat.le_of_ble_eq_true rfl) dX3_copyFrom_8 ⟨Nat.zero_le _, Nat.zero_le _⟩ (fun _ H locs _ hP hD hS => ?_)
  obtain ⟨q1, eq1⟩ : ∃ z : qS, z = upA q 2 (va_cpy (o 2) (q 2) 0 0 8) := ⟨_, rfl⟩
  have hP : va_P G.1 vwCl (wQ G a q1 ++ (wQ G b o ++ R)) H := by rw [eq1]; exact hP
  have hD : va_D A (wQ G a q1 ++ (wQ G b o ++ R)) := by rw [eq1]; exact hD
  have h := h q1 eq1
  refine lv_aload_n hx hb dX3_copyFrom_11 rfl (lv_at hl 1 rfl) ?_
  refine va_get (D := G.1) (ci := 3) (v := .ref (b 3)) (C := RX3) (T := TX3) (N := 5) hx hb hts iX3_copyFrom_X3 hown hKn.k hP 20 rfl rfl 1 (by decide) (hts _ lX3_copyFrom_f15) (fun _ h9 => h9) rfl dX3_copyFrom_12 ?_
  refine lv_aload_n hx hb dX3_copyFrom_15 rfl (lv_at hl 0 rfl) ?_
  refine va_get (D := G.1) (ci := 3) (v := .ref (a 3)) (C := RX3) (T := TX3) (N := 5) hx hb hts iX3_copyFrom_X3 hown hKn.k hP 2 rfl rfl 1 (by decide) (hts _ lX3_copyFrom_f15) (fun _ h9 => h9) rfl dX3_copyFrom_16 ?_
  refine qc_nv (As := [.ref (b 3), .ref (a 3)]) (rest := []) ⟨hx, hb, hml, hown, hts⟩ (m_copyAll l G (wQ G a q1 ++ (wQ G b o ++ R)) 22 4 8 _ (by decide) rfl rfl) ⟨va_cnB 2 hts gX3_copyFrom_X9_copyAll_n24 rfl rfl rfl (hKn.2.1 _ (List.mem_of_getElem? (i := 10) rfl)) (hts _ lX3_copyFrom_nX9) (by decide +kernel) ⟨Nat.le_of_ble_eq_true rfl, Nat.le_of_ble_eq_true rfl⟩, (hts _ lX3_copyFrom_scp), trivial⟩ hP hD hS hA hKn trivial rfl hl.1 rfl (Nat.le_of_ble_eq_true rfl) dX3_copyFrom_19 ⟨Nat.zero_le _, Nat.zero_le _⟩ (fun _ H locs _ hP hD hS => ?_)
  obtain ⟨q2, eq2⟩ : ∃ z : qS, z = upA q1 3 (va_cpy (o 3) (q1 3) 0 0 8) := ⟨_, rfl⟩
  have hP : va_P G.1 vwCl (wQ G a q2 ++ (wQ G b o ++ R)) H := by rw [eq2]; exact hP
  have hD : va_D A (wQ G a q2 ++ (wQ G b o ++ R)) := by rw [eq2]; exact hD
  have h := h q2 eq2
  refine lv_aload_n hx hb dX3_copyFrom_22 rfl (lv_at hl 1 rfl) ?_
  refine va_get (D := G.1) (ci := 3) (v := .ref (b 4)) (C := RX3) (T := TX3) (N := 5) hx hb hts iX3_copyFrom_X3 hown hKn.k hP 20 rfl rfl 2 (by decide) (hts _ lX3_copyFrom_f18) (fun _ h9 => h9) rfl dX3_copyFrom_23 ?_
  refine lv_aload_n hx hb dX3_copyFrom_26 rfl (lv_at hl 0 rfl) ?_
  refine va_get (D := G.1) (ci := 3) (v := .ref (a 4)) (C := RX3) (T := TX3) (N := 5) hx hb hts iX3_copyFrom_X3 hown hKn.k hP 2 rfl rfl 2 (by decide) (hts _ lX3_copyFrom_f18) (fun _ h9 => h9) rfl dX3_copyFrom_27 ?_
  refine qc_nv (As := [.ref (b 4), .ref (a 4)]) (rest := []) ⟨hx, hb, hml, hown, hts⟩ (m_copyAll l G (wQ G a q2 ++ (wQ G b o ++ R)) 23 5 8 _ (by decide) rfl rfl) ⟨va_cnB 2 hts gX3_copyFrom_X9_copyAll_n24 rfl rfl rfl (hKn.2.1 _ (List.mem_of_getElem? (i := 10) rfl)) (hts _ lX3_copyFrom_nX9) (by decide +kernel) ⟨Nat.le_of_ble_eq_true rfl, Nat.le_of_ble_eq_true rfl⟩, (hts _ lX3_copyFrom_scp), trivial⟩ hP hD hS hA hKn trivial rfl hl.1 rfl (Nat.le_of_ble_eq_true rfl) dX3_copyFrom_30 ⟨Nat.zero_le _, Nat.zero_le _⟩ (fun _ H locs _ hP hD hS => ?_)
  obtain ⟨q3, eq3⟩ : ∃ z : qS, z = upA q2 4 (va_cpy (o 4) (q2 4) 0 0 8) := ⟨_, rfl⟩
  have hP : va_P G.1 vwCl (wQ G a q3 ++ (wQ G b o ++ R)) H := by rw [eq3]; exact hP
  have hD : va_D A (wQ G a q3 ++ (wQ G b o ++ R)) := by rw [eq3]; exact hD
  have h := h q3 eq3
  refine lv_aload_n hx hb dX3_copyFrom_33 rfl (lv_at hl 1 rfl) ?_
  refine va_get (D := G.1) (ci := 3) (v := .ref (b 5)) (C := RX3) (T := TX3) (N := 5) hx hb hts iX3_copyFrom_X3 hown hKn.k hP 20 rfl rfl 3 (by decide) (hts _ lX3_copyFrom_f21) (fun _ h9 => h9) rfl dX3_copyFrom_34 ?_
  refine lv_aload_n hx hb dX3_copyFrom_37 rfl (lv_at hl 0 rfl) ?_
  refine va_get (D := G.1) (ci := 3) (v := .ref (a 5)) (C := RX3) (T := TX3) (N := 5) hx hb hts iX3_copyFrom_X3 hown hKn.k hP 2 rfl rfl 3 (by decide) (hts _ lX3_copyFrom_f21) (fun _ h9 => h9) rfl dX3_copyFrom_38 ?_
  refine qc_nv (As := [.ref (b 5), .ref (a 5)]) (rest := []) ⟨hx, hb, hml, hown, hts⟩ (m_copyAll l G (wQ G a q3 ++ (wQ G b o ++ R)) 24 6 8 _ (by decide) rfl rfl) ⟨va_cnB 2 hts gX3_copyFrom_X9_copyAll_n24 rfl rfl rfl (hKn.2.1 _ (List.mem_of_getElem? (i := 10) rfl)) (hts _ lX3_copyFrom_nX9) (by decide +kernel) ⟨Nat.le_of_ble_eq_true rfl, Nat.le_of_ble_eq_true rfl⟩, (hts _ lX3_copyFrom_scp), trivial⟩ hP hD hS hA hKn trivial rfl hl.1 rfl (Nat.le_of_ble_eq_true rfl) dX3_copyFrom_41 ⟨Nat.zero_le _, Nat.zero_le _⟩ (fun _ H locs _ hP hD hS => ?_)
  obtain ⟨q4, eq4⟩ : ∃ z : qS, z = upA q3 5 (va_cpy (o 5) (q3 5) 0 0 8) := ⟨_, rfl⟩
  have hP : va_P G.1 vwCl (wQ G a q4 ++ (wQ G b o ++ R)) H := by rw [eq4]; exact hP
  have hD : va_D A (wQ G a q4 ++ (wQ G b o ++ R)) := by rw [eq4]; exact hD
  have h := h q4 eq4
  refine lv_aload_n hx hb dX3_copyFrom_44 rfl (lv_at hl 0 rfl) ?_
  refine lv_aload_n hx hb dX3_copyFrom_45 rfl (lv_at hl 1 rfl) ?_
  refine va_get (D := G.1) (ci := 3) (v := .int (o 0 4)) (C := RX3) (T := TX3) (N := 5) hx hb hts iX3_copyFrom_X3 hown hKn.k hP 20 rfl rfl 4 (by decide) (hts _ lX3_copyFrom_f28) (fun _ h9 => h9) rfl dX3_copyFrom_46 ?_
  refine lv_topi (fun y5 ey5 => ?_)
  have h := h y5 ey5
  refine va_put (D := G.1) (ci := 3) (v := .int y5) (ty := .int) (C := RX3) (T := TX3) (N := 5) hx hb hts iX3_copyFrom_X3 tyX3 tyX3_ok nmX3 hown hKn.k hP hD hS 2 rfl rfl 4 (by decide) (hts _ lX3_copyFrom_f28) (fun _ h9 => h9) rfl (by decide +kernel) rfl rfl (Nat.le_of_ble_eq_true rfl) dX3_copyFrom_49 (fun H locs hP hD hS => ?_)
  obtain ⟨q6, eq6⟩ : ∃ z : qS, z = up2 q4 0 4 y5 := ⟨_, rfl⟩
  have hP : va_P G.1 vwCl (wQ G a q6 ++ (wQ G b o ++ R)) H := by rw [eq6]; exact hP
  have hD : va_D A (wQ G a q6 ++ (wQ G b o ++ R)) := by rw [eq6]; exact hD
  have h := h q6 eq6
  exact hret _ _ _ _ _ _ h hP hD hS dX3_copyFrom_52
abbrev rmX8_copyFrom : Room := { frames := 2, cells := 0, slots := 0, locals := 39 }
theorem lX8_copyFrom_f15 : Cond.fieldLink RX8 15 "QuarryBlends$Trucks" "load" "[I" ∈ wsX8_copyFrom := by decide +kernel
theorem lX8_copyFrom_f18 : Cond.fieldLink RX8 18 "QuarryBlends$Trucks" "back" "[I" ∈ wsX8_copyFrom := by decide +kernel
theorem lX8_copyFrom_f21 : Cond.fieldLink RX8 21 "QuarryBlends$Trucks" "sent" "[I" ∈ wsX8_copyFrom := by decide +kernel
theorem lX8_copyFrom_f9 : Cond.fieldLink RX8 9 "QuarryBlends$Trucks" "from" "[I" ∈ wsX8_copyFrom := by decide +kernel
theorem lX8_copyFrom_nX9 : Cond.initialized RX9 ∈ wsX8_copyFrom := by decide +kernel
theorem lX8_copyFrom_scp : Cond.static yX9_copyAll ∈ wsX8_copyFrom := by decide +kernel
theorem iX8_copyFrom_X8 : ∀ w ∈ wsX80, w ∈ wsX8_copyFrom := by decide +kernel
set_option maxHeartbeats 4000000 in
set_option maxRecDepth 100000 in
theorem mX8_copyFrom (l : Launch) (G : qG) (k : qS → qS → Prop) (R : va_W) (a : Nat → Nat) (b : Nat → Nat) (q : qS) (o : qS) (sz : Nat) : Met l yX8_copyFrom wsX8_copyFrom rmX8_copyFrom (qPc G [.ref (a 14), .ref (b 14)] (wQ G a q ++ (wQ G b o ++ R)) sz (wX8_copyFrom k q o)) (qQv G (wQ G a q ++ (wQ G b o ++ R)) sz (fun (u : qS × qS) => k u.1 u.2) (fun (u : qS × qS) => wQ G a u.1 ++ (wQ G b u.2 ++ R))) 0 0 (va_A (wQ G a q ++ (wQ G b o ++ R)) sz) := by
  refine Met.ofW (cc := cX8_copyFrom) (maxL := 2) (ret := none) (by decide) rfl ?_
  intro p e s m args below meth c s₁ B hml hv
  obtain ⟨rfl, hsz, hP, hD0, hKn0, h⟩ := hv
  have hx := B.exec
  have hb := B.bytes
  have hr := B.returns
  have hts := atoms_spec (ws := wsX8_copyFrom) B.pre
  have hown : s.vm.findClass RX8 = some m.cls := findClass_of_methodNamed B.named
  have hlocks := B.notSynchronized
  subst hsz
  have hD := hD0.self (sz := s.heap.size)
  generalize hAe : va_A (wQ G a q ++ (wQ G b o ++ R)) s.heap.size = A at hD hKn0 ⊢
  have hA : ∀ q : Nat, s.heap.size ≤ q → A q := fun q h => by rw [← hAe]; exact Or.inr h
  have hKn : qKn G A s s.heap := hKn0
  have hS : va_S A s.heap s.heap [] := va_S.rf
  have hret : ∀ (q' : qS) (o' : qS) (H : Heap) (locs : List Loc) (ls : Array Slot) (pc : Nat), k q' o' → va_P G.1 vwCl (wQ G a q' ++ (wQ G b o' ++ R)) H → va_D A (wQ G a q' ++ (wQ G b o' ++ R)) → va_S A s.heap H locs → decode cX8_copyFrom pc = .ok (.return_, 1) → W p l e rmX8_copyFrom s m #[.ref (a 14), .ref (b 14)] below meth c H locs 0 0 (MQ below (qQv G (wQ G a q ++ (wQ G b o ++ R)) s.heap.size (fun (u : qS × qS) => k u.1 u.2) (fun (u : qS × qS) => wQ G a u.1 ++ (wQ G b u.2 ++ R))) #[.ref (a 14), .ref (b 14)] s 0 0 A) (F0 m pc ls []) := fun q' o' H locs ls pc hk hP hD hS hd => W.vret hx hb hr (fun t ht hW => q_rv (u := (⟨q', o'⟩ : qS × qS)) hAe hk hP hD hS ht) hS.2.2 hd
  have hl := lv_entry ([.ref (a 14), .ref (b 14)]) (n := 2) (Nat.le_of_ble_eq_true rfl)
  rw [lg_entry_eq]
  generalize (lg_sl ([.ref (a 14), .ref (b 14)]) ++ List.replicate (2 - (lg_sl ([.ref (a 14), .ref (b 14)])).length) Slot.unset).toArray = ls at hl ⊢
  have hl : lv_has ls 2 [(0, .ref (a 14)), (1, .ref (b 14))] := hl
  unfold wX8_copyFrom at h
  show W p l e rmX8_copyFrom s m #[.ref (a 14), .ref (b 14)] below meth c s.heap [] 0 0 _ _
  refine lv_aload_n hx hb dX8_copyFrom_0 rfl (lv_at hl 1 rfl) ?_
  refine va_get (D := G.1) (ci := 8) (v := .ref (b 6)) (C := RX8) (T := TX8) (N := 4) hx hb hts iX8_copyFrom_X8 hown hKn.k hP 25 rfl rfl 0 (by decide) (hts _ lX8_copyFrom_f9) (fun _ h9 => h9) rfl dX8_copyFrom_1 ?_
  refine lv_aload_n hx hb dX8_copyFrom_4 rfl (lv_at hl 0 rfl) ?_
  refine va_get (D := G.1) (ci := 8) (v := .ref (a 6)) (C := RX8) (T := TX8) (N := 4) hx hb hts iX8_copyFrom_X8 hown hKn.k hP 7 rfl rfl 0 (by decide) (hts _ lX8_copyFrom_f9) (fun _ h9 => h9) rfl dX8_copyFrom_5 ?_
  refine qc_nv (As := [.ref (b 6), .ref (a 6)]) (rest := []) ⟨hx, hb, hml, hown, hts⟩ (m_copyAll l G (wQ G a q ++ (wQ G b o ++ R)) 26 8 20 _ (by decide) rfl rfl) ⟨va_cnB 2 hts gX8_copyFrom_X9_copyAll_n30 rfl rfl rfl (hKn.2.1 _ (List.mem_of_getElem? (i := 11) rfl)) (hts _ lX8_copyFrom_nX9) (by decide +kernel) ⟨Nat.le_of_ble_eq_true rfl, Nat.le_of_ble_eq_true rfl⟩, (hts _ lX8_copyFrom_scp), trivial⟩ hP hD hS hA hKn trivial rfl hl.1 rfl (Nat.le_of_ble_eq_true rfl) dX8_copyFrom_8 ⟨Nat.zero_le _, Nat.zero_le _⟩ (fun _ H locs _ hP hD hS => ?_)
  obtain ⟨q1, eq1⟩ : ∃ z : qS, z = upA q 6 (va_cpy (o 6) (q 6) 0 0 20) := ⟨_, rfl⟩
  have hP : va_P G.1 vwCl (wQ G a q1 ++ (wQ G b o ++ R)) H := by rw [eq1]; exact hP
  have hD : va_D A (wQ G a q1 ++ (wQ G b o ++ R)) := by rw [eq1]; exact hD
  have h := h q1 eq1
  refine lv_aload_n hx hb dX8_copyFrom_11 rfl (lv_at hl 1 rfl) ?_
  refine va_get (D := G.1) (ci := 8) (v := .ref (b 7)) (C := RX8) (T := TX8) (N := 4) hx hb hts iX8_copyFrom_X8 hown hKn.k hP 25 rfl rfl 1 (by decide) (hts _ lX8_copyFrom_f15) (fun _ h9 => h9) rfl dX8_copyFrom_12 ?_
  refine lv_aload_n hx hb dX8_copyFrom_15 rfl (lv_at hl 0 rfl) ?_
  refine va_get (D := G.1) (ci := 8) (v := .ref (a 7)) (C := RX8) (T := TX8) (N := 4) hx hb hts iX8_copyFrom_X8 hown hKn.k hP 7 rfl rfl 1 (by decide) (hts _ lX8_copyFrom_f15) (fun _ h9 => h9) rfl dX8_copyFrom_16 ?_
  refine qc_nv (As := [.ref (b 7), .ref (a 7)]) (rest := []) ⟨hx, hb, hml, hown, hts⟩ (m_copyAll l G (wQ G a q1 ++ (wQ G b o ++ R)) 27 9 20 _ (by decide) rfl rfl) ⟨va_cnB 2 hts gX8_copyFrom_X9_copyAll_n30 rfl rfl rfl (hKn.2.1 _ (List.mem_of_getElem? (i := 11) rfl)) (hts _ lX8_copyFrom_nX9) (by decide +kernel) ⟨Nat.le_of_ble_eq_true rfl, Nat.le_of_ble_eq_true rfl⟩, (hts _ lX8_copyFrom_scp), trivial⟩ hP hD hS hA hKn trivial rfl hl.1 rfl (Nat.le_of_ble_eq_true rfl) dX8_copyFrom_19 ⟨Nat.zero_le _, Nat.zero_le _⟩ (fun _ H locs _ hP hD hS => ?_)
  obtain ⟨q2, eq2⟩ : ∃ z : qS, z = upA q1 7 (va_cpy (o 7) (q1 7) 0 0 20) := ⟨_, rfl⟩
  have hP : va_P G.1 vwCl (wQ G a q2 ++ (wQ G b o ++ R)) H := by rw [eq2]; exact hP
  have hD : va_D A (wQ G a q2 ++ (wQ G b o ++ R)) := by rw [eq2]; exact hD
  have h := h q2 eq2
  refine lv_aload_n hx hb dX8_copyFrom_22 rfl (lv_at hl 1 rfl) ?_
  refine va_get (D := G.1) (ci := 8) (v := .ref (b 8)) (C := RX8) (T := TX8) (N := 4) hx hb hts iX8_copyFrom_X8 hown hKn.k hP 25 rfl rfl 2 (by decide) (hts _ lX8_copyFrom_f18) (fun _ h9 => h9) rfl dX8_copyFrom_23 ?_
  refine lv_aload_n hx hb dX8_copyFrom_26 rfl (lv_at hl 0 rfl) ?_
  refine va_get (D := G.1) (ci := 8) (v := .ref (a 8)) (C := RX8) (T := TX8) (N := 4) hx hb hts iX8_copyFrom_X8 hown hKn.k hP 7 rfl rfl 2 (by decide) (hts _ lX8_copyFrom_f18) (fun _ h9 => h9) rfl dX8_copyFrom_27 ?_
  refine qc_nv (As := [.ref (b 8), .ref (a 8)]) (rest := []) ⟨hx, hb, hml, hown, hts⟩ (m_copyAll l G (wQ G a q2 ++ (wQ G b o ++ R)) 28 10 20 _ (by decide) rfl rfl) ⟨va_cnB 2 hts gX8_copyFrom_X9_copyAll_n30 rfl rfl rfl (hKn.2.1 _ (List.mem_of_getElem? (i := 11) rfl)) (hts _ lX8_copyFrom_nX9) (by decide +kernel) ⟨Nat.le_of_ble_eq_true rfl, Nat.le_of_ble_eq_true rfl⟩, (hts _ lX8_copyFrom_scp), trivial⟩ hP hD hS hA hKn trivial rfl hl.1 rfl (Nat.le_of_ble_eq_true rfl) dX8_copyFrom_30 ⟨Nat.zero_le _, Nat.zero_le _⟩ (fun _ H locs _ hP hD hS => ?_)
  obtain ⟨q3, eq3⟩ : ∃ z : qS, z = upA q2 8 (va_cpy (o 8) (q2 8) 0 0 20) := ⟨_, rfl⟩
  have hP : va_P G.1 vwCl (wQ G a q3 ++ (wQ G b o ++ R)) H := by rw [eq3]; exact hP
  have hD : va_D A (wQ G a q3 ++ (wQ G b o ++ R)) := by rw [eq3]; exact hD
  have h := h q3 eq3
  refine lv_aload_n hx hb dX8_copyFrom_33 rfl (lv_at hl 1 rfl) ?_
  refine va_get (D := G.1) (ci := 8) (v := .ref (b 9)) (C := RX8) (T := TX8) (N := 4) hx hb hts iX8_copyFrom_X8 hown hKn.k hP 25 rfl rfl 3 (by decide) (hts _ lX8_copyFrom_f21) (fun _ h9 => h9) rfl dX8_copyFrom_34 ?_
  refine lv_aload_n hx hb dX8_copyFrom_37 rfl (lv_at hl 0 rfl) ?_
  refine va_get (D := G.1) (ci := 8) (v := .ref (a 9)) (C := RX8) (T := TX8) (N := 4) hx hb hts iX8_copyFrom_X8 hown hKn.k hP 7 rfl rfl 3 (by decide) (hts _ lX8_copyFrom_f21) (fun _ h9 => h9) rfl dX8_copyFrom_38 ?_
  refine qc_nv (As := [.ref (b 9), .ref (a 9)]) (rest := []) ⟨hx, hb, hml, hown, hts⟩ (m_copyAll l G (wQ G a q3 ++ (wQ G b o ++ R)) 29 11 20 _ (by decide) rfl rfl) ⟨va_cnB 2 hts gX8_copyFrom_X9_copyAll_n30 rfl rfl rfl (hKn.2.1 _ (List.mem_of_getElem? (i := 11) rfl)) (hts _ lX8_copyFrom_nX9) (by decide +kernel) ⟨Nat.le_of_ble_eq_true rfl, Nat.le_of_ble_eq_true rfl⟩, (hts _ lX8_copyFrom_scp), trivial⟩ hP hD hS hA hKn trivial rfl hl.1 rfl (Nat.le_of_ble_eq_true rfl) dX8_copyFrom_41 ⟨Nat.zero_le _, Nat.zero_le _⟩ (fun _ H locs _ hP hD hS => ?_)
  obtain ⟨q4, eq4⟩ : ∃ z : qS, z = upA q3 9 (va_cpy (o 9) (q3 9) 0 0 20) := ⟨_, rfl⟩
  have hP : va_P G.1 vwCl (wQ G a q4 ++ (wQ G b o ++ R)) H := by rw [eq4]; exact hP
  have hD : va_D A (wQ G a q4 ++ (wQ G b o ++ R)) := by rw [eq4]; exact hD
  have h := h q4 eq4
  exact hret _ _ _ _ _ _ h hP hD hS dX8_copyFrom_44
abbrev rmX6_copyFrom : Room := { frames := 3, cells := 0, slots := 0, locals := 60 }
theorem lX6_copyFrom_f18 : Cond.fieldLink RX6 18 "QuarryBlends$Quarry" "settings" "[I" ∈ wsX6_copyFrom := by decide +kernel
theorem lX6_copyFrom_f26 : Cond.fieldLink RX6 26 "QuarryBlends$Quarry" "faces" "LQuarryBlends$Faces;" ∈ wsX6_copyFrom := by decide +kernel
theorem lX6_copyFrom_f33 : Cond.fieldLink RX6 33 "QuarryBlends$Quarry" "trucks" "LQuarryBlends$Trucks;" ∈ wsX6_copyFrom := by decide +kernel
theorem lX6_copyFrom_f40 : Cond.fieldLink RX6 40 "QuarryBlends$Quarry" "crusher" "LQuarryBlends$Crusher;" ∈ wsX6_copyFrom := by decide +kernel
theorem lX6_copyFrom_f47 : Cond.fieldLink RX6 47 "QuarryBlends$Quarry" "contracts" "LQuarryBlends$Contracts;" ∈ wsX6_copyFrom := by decide +kernel
theorem lX6_copyFrom_f75 : Cond.fieldLink RX6 75 "QuarryBlends$Quarry" "hours" "I" ∈ wsX6_copyFrom := by decide +kernel
theorem lX6_copyFrom_f79 : Cond.fieldLink RX6 79 "QuarryBlends$Quarry" "delivered" "I" ∈ wsX6_copyFrom := by decide +kernel
theorem lX6_copyFrom_f82 : Cond.fieldLink RX6 82 "QuarryBlends$Quarry" "paid" "I" ∈ wsX6_copyFrom := by decide +kernel
theorem lX6_copyFrom_f85 : Cond.fieldLink RX6 85 "QuarryBlends$Quarry" "costs" "I" ∈ wsX6_copyFrom := by decide +kernel
theorem lX6_copyFrom_nX9 : Cond.initialized RX9 ∈ wsX6_copyFrom := by decide +kernel
theorem lX6_copyFrom_scp : Cond.static yX9_copyAll ∈ wsX6_copyFrom := by decide +kernel
theorem iX6_copyFrom_X6 : ∀ w ∈ wsX60, w ∈ wsX6_copyFrom := by decide +kernel
set_option maxHeartbeats 4000000 in
set_option maxRecDepth 100000 in
theorem mX6_copyFrom (l : Launch) (G : qG) (k : qS → qS → Prop) (R : va_W) (a : Nat → Nat) (b : Nat → Nat) (q : qS) (o : qS) (sz : Nat) : Met l yX6_copyFrom wsX6_copyFrom rmX6_copyFrom (qPc G [.ref (a 0), .ref (b 0)] (wQ G a q ++ (wQ G b o ++ R)) sz (wX6_copyFrom k q o)) (qQv G (wQ G a q ++ (wQ G b o ++ R)) sz (fun (u : qS × qS) => k u.1 u.2) (fun (u : qS × qS) => wQ G a u.1 ++ (wQ G b u.2 ++ R))) 0 0 (va_A (wQ G a q ++ (wQ G b o ++ R)) sz) := by
  refine Met.ofW (cc := cX6_copyFrom) (maxL := 2) (ret := none) (by decide) rfl ?_
  intro p e s m args below meth c s₁ B hml hv
  obtain ⟨rfl, hsz, hP, hD0, hKn0, h⟩ := hv
  have hx := B.exec
  have hb := B.bytes
  have hr := B.returns
  have hts := atoms_spec (ws := wsX6_copyFrom) B.pre
  have hown : s.vm.findClass RX6 = some m.cls := findClass_of_methodNamed B.named
  have hlocks := B.notSynchronized
  subst hsz
  have hD := hD0.self (sz := s.heap.size)
  generalize hAe : va_A (wQ G a q ++ (wQ G b o ++ R)) s.heap.size = A at hD hKn0 ⊢
  have hA : ∀ q : Nat, s.heap.size ≤ q → A q := fun q h => by rw [← hAe]; exact Or.inr h
  have hKn : qKn G A s s.heap := hKn0
  have hS : va_S A s.heap s.heap [] := va_S.rf
  have hret : ∀ (q' : qS) (o' : qS) (H : Heap) (locs : List Loc) (ls : Array Slot) (pc : Nat), k q' o' → va_P G.1 vwCl (wQ G a q' ++ (wQ G b o' ++ R)) H → va_D A (wQ G a q' ++ (wQ G b o' ++ R)) → va_S A s.heap H locs → decode cX6_copyFrom pc = .ok (.return_, 1) → W p l e rmX6_copyFrom s m #[.ref (a 0), .ref (b 0)] below meth c H locs 0 0 (MQ below (qQv G (wQ G a q ++ (wQ G b o ++ R)) s.heap.size (fun (u : qS × qS) => k u.1 u.2) (fun (u : qS × qS) => wQ G a u.1 ++ (wQ G b u.2 ++ R))) #[.ref (a 0), .ref (b 0)] s 0 0 A) (F0 m pc ls []) := fun q' o' H locs ls pc hk hP hD hS hd => W.vret hx hb hr (fun t ht hW => q_rv (u := (⟨q', o'⟩ : qS × qS)) hAe hk hP hD hS ht) hS.2.2 hd
  have hl := lv_entry ([.ref (a 0), .ref (b 0)]) (n := 2) (Nat.le_of_ble_eq_true rfl)
  rw [lg_entry_eq]
  generalize (lg_sl ([.ref (a 0), .ref (b 0)]) ++ List.replicate (2 - (lg_sl ([.ref (a 0), .ref (b 0)])).length) Slot.unset).toArray = ls at hl ⊢
  have hl : lv_has ls 2 [(0, .ref (a 0)), (1, .ref (b 0))] := hl
  unfold wX6_copyFrom at h
  show W p l e rmX6_copyFrom s m #[.ref (a 0), .ref (b 0)] below meth c s.heap [] 0 0 _ _
  refine lv_aload_n hx hb dX6_copyFrom_0 rfl (lv_at hl 1 rfl) ?_
  refine va_get (D := G.1) (ci := 6) (v := .ref (b 1)) (C := RX6) (T := TX6) (N := 10) hx hb hts iX6_copyFrom_X6 hown hKn.k hP 18 rfl rfl 0 (by decide) (hts _ lX6_copyFrom_f18) (fun _ h9 => h9) rfl dX6_copyFrom_1 ?_
  refine lv_aload_n hx hb dX6_copyFrom_4 rfl (lv_at hl 0 rfl) ?_
  refine va_get (D := G.1) (ci := 6) (v := .ref (a 1)) (C := RX6) (T := TX6) (N := 10) hx hb hts iX6_copyFrom_X6 hown hKn.k hP 0 rfl rfl 0 (by decide) (hts _ lX6_copyFrom_f18) (fun _ h9 => h9) rfl dX6_copyFrom_5 ?_
  refine qc_nv (As := [.ref (b 1), .ref (a 1)]) (rest := []) ⟨hx, hb, hml, hown, hts⟩ (m_copyAll l G (wQ G a q ++ (wQ G b o ++ R)) 19 1 6 _ (by decide) rfl rfl) ⟨va_cnB 2 hts gX6_copyFrom_X9_copyAll_n58 rfl rfl rfl (hKn.2.1 _ (List.mem_of_getElem? (i := 9) rfl)) (hts _ lX6_copyFrom_nX9) (by decide +kernel) ⟨Nat.le_of_ble_eq_true rfl, Nat.le_of_ble_eq_true rfl⟩, (hts _ lX6_copyFrom_scp), trivial⟩ hP hD hS hA hKn trivial rfl hl.1 rfl (Nat.le_of_ble_eq_true rfl) dX6_copyFrom_8 ⟨Nat.zero_le _, Nat.zero_le _⟩ (fun _ H locs _ hP hD hS => ?_)
  obtain ⟨q1, eq1⟩ : ∃ z : qS, z = upA q 1 (va_cpy (o 1) (q 1) 0 0 6) := ⟨_, rfl⟩
  have hP : va_P G.1 vwCl (wQ G a q1 ++ (wQ G b o ++ R)) H := by rw [eq1]; exact hP
  have hD : va_D A (wQ G a q1 ++ (wQ G b o ++ R)) := by rw [eq1]; exact hD
  have h := h q1 eq1
  refine lv_aload_n hx hb dX6_copyFrom_11 rfl (lv_at hl 0 rfl) ?_
  refine va_get (D := G.1) (ci := 6) (v := .ref (a 13)) (C := RX6) (T := TX6) (N := 10) hx hb hts iX6_copyFrom_X6 hown hKn.k hP 0 rfl rfl 1 (by decide) (hts _ lX6_copyFrom_f26) (fun _ h9 => h9) rfl dX6_copyFrom_12 ?_
  refine lv_aload_n hx hb dX6_copyFrom_15 rfl (lv_at hl 1 rfl) ?_
  refine va_get (D := G.1) (ci := 6) (v := .ref (b 13)) (C := RX6) (T := TX6) (N := 10) hx hb hts iX6_copyFrom_X6 hown hKn.k hP 18 rfl rfl 1 (by decide) (hts _ lX6_copyFrom_f26) (fun _ h9 => h9) rfl dX6_copyFrom_16 ?_
  refine qc_vv (As := [.ref (b 13)]) (rest := []) ⟨hx, hb, hml, hown, hts⟩ (mX3_copyFrom l G _ _ a b q1 o _ ) (cwV 1 hts gX6_copyFrom_X3_copyFrom rfl rfl rfl (by decide +kernel) ⟨Nat.le_of_ble_eq_true rfl, Nat.le_of_ble_eq_true rfl⟩) hP hD hS hA hKn 2 3 rfl rfl rfl h rfl hl.1 rfl (Nat.le_of_ble_eq_true rfl) dX6_copyFrom_19 ⟨Nat.zero_le _, Nat.zero_le _⟩ (fun u H locs h hP hD hS => ?_)
  obtain ⟨q3, o4⟩ := u
  have hP : va_P G.1 vwCl (wQ G a q3 ++ (wQ G b o4 ++ R)) H := hP
  have hD : va_D A (wQ G a q3 ++ (wQ G b o4 ++ R)) := hD
  refine lv_aload_n hx hb dX6_copyFrom_22 rfl (lv_at hl 0 rfl) ?_
  refine va_get (D := G.1) (ci := 6) (v := .ref (a 14)) (C := RX6) (T := TX6) (N := 10) hx hb hts iX6_copyFrom_X6 hown hKn.k hP 0 rfl rfl 2 (by decide) (hts _ lX6_copyFrom_f33) (fun _ h9 => h9) rfl dX6_copyFrom_23 ?_
  refine lv_aload_n hx hb dX6_copyFrom_26 rfl (lv_at hl 1 rfl) ?_
  refine va_get (D := G.1) (ci := 6) (v := .ref (b 14)) (C := RX6) (T := TX6) (N := 10) hx hb hts iX6_copyFrom_X6 hown hKn.k hP 18 rfl rfl 2 (by decide) (hts _ lX6_copyFrom_f33) (fun _ h9 => h9) rfl dX6_copyFrom_27 ?_
  refine qc_vv (As := [.ref (b 14)]) (rest := []) ⟨hx, hb, hml, hown, hts⟩ (mX8_copyFrom l G _ _ a b q3 o4 _ ) (cwV 1 hts gX6_copyFrom_X8_copyFrom rfl rfl rfl (by decide +kernel) ⟨Nat.le_of_ble_eq_true rfl, Nat.le_of_ble_eq_true rfl⟩) hP hD hS hA hKn 7 8 rfl rfl rfl h rfl hl.1 rfl (Nat.le_of_ble_eq_true rfl) dX6_copyFrom_30 ⟨Nat.zero_le _, Nat.zero_le _⟩ (fun u H locs h hP hD hS => ?_)
  obtain ⟨q6, o7⟩ := u
  have hP : va_P G.1 vwCl (wQ G a q6 ++ (wQ G b o7 ++ R)) H := hP
  have hD : va_D A (wQ G a q6 ++ (wQ G b o7 ++ R)) := hD
  refine lv_aload_n hx hb dX6_copyFrom_33 rfl (lv_at hl 0 rfl) ?_
  refine va_get (D := G.1) (ci := 6) (v := .ref (a 15)) (C := RX6) (T := TX6) (N := 10) hx hb hts iX6_copyFrom_X6 hown hKn.k hP 0 rfl rfl 3 (by decide) (hts _ lX6_copyFrom_f40) (fun _ h9 => h9) rfl dX6_copyFrom_34 ?_
  refine lv_aload_n hx hb dX6_copyFrom_37 rfl (lv_at hl 1 rfl) ?_
  refine va_get (D := G.1) (ci := 6) (v := .ref (b 15)) (C := RX6) (T := TX6) (N := 10) hx hb hts iX6_copyFrom_X6 hown hKn.k hP 18 rfl rfl 3 (by decide) (hts _ lX6_copyFrom_f40) (fun _ h9 => h9) rfl dX6_copyFrom_38 ?_
  refine qc_vv (As := [.ref (b 15)]) (rest := []) ⟨hx, hb, hml, hown, hts⟩ (mX2_copyFrom l G _ _ a b q6 o7 _ ) (cwV 1 hts gX6_copyFrom_X2_copyFrom rfl rfl rfl (by decide +kernel) ⟨Nat.le_of_ble_eq_true rfl, Nat.le_of_ble_eq_true rfl⟩) hP hD hS hA hKn 12 2 rfl rfl rfl h rfl hl.1 rfl (Nat.le_of_ble_eq_true rfl) dX6_copyFrom_41 ⟨Nat.zero_le _, Nat.zero_le _⟩ (fun u H locs h hP hD hS => ?_)
  obtain ⟨q9, o10⟩ := u
  have hP : va_P G.1 vwCl (wQ G a q9 ++ (wQ G b o10 ++ R)) H := hP
  have hD : va_D A (wQ G a q9 ++ (wQ G b o10 ++ R)) := hD
  refine lv_aload_n hx hb dX6_copyFrom_44 rfl (lv_at hl 0 rfl) ?_
  refine va_get (D := G.1) (ci := 6) (v := .ref (a 16)) (C := RX6) (T := TX6) (N := 10) hx hb hts iX6_copyFrom_X6 hown hKn.k hP 0 rfl rfl 4 (by decide) (hts _ lX6_copyFrom_f47) (fun _ h9 => h9) rfl dX6_copyFrom_45 ?_
  refine lv_aload_n hx hb dX6_copyFrom_48 rfl (lv_at hl 1 rfl) ?_
  refine va_get (D := G.1) (ci := 6) (v := .ref (b 16)) (C := RX6) (T := TX6) (N := 10) hx hb hts iX6_copyFrom_X6 hown hKn.k hP 18 rfl rfl 4 (by decide) (hts _ lX6_copyFrom_f47) (fun _ h9 => h9) rfl dX6_copyFrom_49 ?_
  refine qc_vv (As := [.ref (b 16)]) (rest := []) ⟨hx, hb, hml, hown, hts⟩ (mX1_copyFrom l G _ _ a b q9 o10 _ ) (cwV 1 hts gX6_copyFrom_X1_copyFrom rfl rfl rfl (by decide +kernel) ⟨Nat.le_of_ble_eq_true rfl, Nat.le_of_ble_eq_true rfl⟩) hP hD hS hA hKn 15 1 rfl rfl rfl h rfl hl.1 rfl (Nat.le_of_ble_eq_true rfl) dX6_copyFrom_52 ⟨Nat.zero_le _, Nat.zero_le _⟩ (fun u H locs h hP hD hS => ?_)
  obtain ⟨q12, o13⟩ := u
  have hP : va_P G.1 vwCl (wQ G a q12 ++ (wQ G b o13 ++ R)) H := hP
  have hD : va_D A (wQ G a q12 ++ (wQ G b o13 ++ R)) := hD
  refine lv_aload_n hx hb dX6_copyFrom_55 rfl (lv_at hl 0 rfl) ?_
  refine lv_aload_n hx hb dX6_copyFrom_56 rfl (lv_at hl 1 rfl) ?_
  refine va_get (D := G.1) (ci := 6) (v := .int (o13 0 0)) (C := RX6) (T := TX6) (N := 10) hx hb hts iX6_copyFrom_X6 hown hKn.k hP 18 rfl rfl 6 (by decide) (hts _ lX6_copyFrom_f75) (fun _ h9 => h9) rfl dX6_copyFrom_57 ?_
  refine lv_topi (fun y14 ey14 => ?_)
  have h := h y14 ey14
  refine va_put (D := G.1) (ci := 6) (v := .int y14) (ty := .int) (C := RX6) (T := TX6) (N := 10) hx hb hts iX6_copyFrom_X6 tyX6 tyX6_ok nmX6 hown hKn.k hP hD hS 0 rfl rfl 6 (by decide) (hts _ lX6_copyFrom_f75) (fun _ h9 => h9) rfl (by decide +kernel) rfl rfl (Nat.le_of_ble_eq_true rfl) dX6_copyFrom_60 (fun H locs hP hD hS => ?_)
  obtain ⟨q15, eq15⟩ : ∃ z : qS, z = up2 q12 0 0 y14 := ⟨_, rfl⟩
  have hP : va_P G.1 vwCl (wQ G a q15 ++ (wQ G b o13 ++ R)) H := by rw [eq15]; exact hP
  have hD : va_D A (wQ G a q15 ++ (wQ G b o13 ++ R)) := by rw [eq15]; exact hD
  have h := h q15 eq15
  refine lv_aload_n hx hb dX6_copyFrom_63 rfl (lv_at hl 0 rfl) ?_
  refine lv_aload_n hx hb dX6_copyFrom_64 rfl (lv_at hl 1 rfl) ?_
  refine va_get (D := G.1) (ci := 6) (v := .int (o13 0 1)) (C := RX6) (T := TX6) (N := 10) hx hb hts iX6_copyFrom_X6 hown hKn.k hP 18 rfl rfl 7 (by decide) (hts _ lX6_copyFrom_f79) (fun _ h9 => h9) rfl dX6_copyFrom_65 ?_
  refine lv_topi (fun y16 ey16 => ?_)
  have h := h y16 ey16
  refine va_put (D := G.1) (ci := 6) (v := .int y16) (ty := .int) (C := RX6) (T := TX6) (N := 10) hx hb hts iX6_copyFrom_X6 tyX6 tyX6_ok nmX6 hown hKn.k hP hD hS 0 rfl rfl 7 (by decide) (hts _ lX6_copyFrom_f79) (fun _ h9 => h9) rfl (by decide +kernel) rfl rfl (Nat.le_of_ble_eq_true rfl) dX6_copyFrom_68 (fun H locs hP hD hS => ?_)
  obtain ⟨q17, eq17⟩ : ∃ z : qS, z = up2 q15 0 1 y16 := ⟨_, rfl⟩
  have hP : va_P G.1 vwCl (wQ G a q17 ++ (wQ G b o13 ++ R)) H := by rw [eq17]; exact hP
  have hD : va_D A (wQ G a q17 ++ (wQ G b o13 ++ R)) := by rw [eq17]; exact hD
  have h := h q17 eq17
  refine lv_aload_n hx hb dX6_copyFrom_71 rfl (lv_at hl 0 rfl) ?_
  refine lv_aload_n hx hb dX6_copyFrom_72 rfl (lv_at hl 1 rfl) ?_
  refine va_get (D := G.1) (ci := 6) (v := .int (o13 0 2)) (C := RX6) (T := TX6) (N := 10) hx hb hts iX6_copyFrom_X6 hown hKn.k hP 18 rfl rfl 8 (by decide) (hts _ lX6_copyFrom_f82) (fun _ h9 => h9) rfl dX6_copyFrom_73 ?_
  refine lv_topi (fun y18 ey18 => ?_)
  have h := h y18 ey18
  refine va_put (D := G.1) (ci := 6) (v := .int y18) (ty := .int) (C := RX6) (T := TX6) (N := 10) hx hb hts iX6_copyFrom_X6 tyX6 tyX6_ok nmX6 hown hKn.k hP hD hS 0 rfl rfl 8 (by decide) (hts _ lX6_copyFrom_f82) (fun _ h9 => h9) rfl (by decide +kernel) rfl rfl (Nat.le_of_ble_eq_true rfl) dX6_copyFrom_76 (fun H locs hP hD hS => ?_)
  obtain ⟨q19, eq19⟩ : ∃ z : qS, z = up2 q17 0 2 y18 := ⟨_, rfl⟩
  have hP : va_P G.1 vwCl (wQ G a q19 ++ (wQ G b o13 ++ R)) H := by rw [eq19]; exact hP
  have hD : va_D A (wQ G a q19 ++ (wQ G b o13 ++ R)) := by rw [eq19]; exact hD
  have h := h q19 eq19
  refine lv_aload_n hx hb dX6_copyFrom_79 rfl (lv_at hl 0 rfl) ?_
  refine lv_aload_n hx hb dX6_copyFrom_80 rfl (lv_at hl 1 rfl) ?_
  refine va_get (D := G.1) (ci := 6) (v := .int (o13 0 3)) (C := RX6) (T := TX6) (N := 10) hx hb hts iX6_copyFrom_X6 hown hKn.k hP 18 rfl rfl 9 (by decide) (hts _ lX6_copyFrom_f85) (fun _ h9 => h9) rfl dX6_copyFrom_81 ?_
  refine lv_topi (fun y20 ey20 => ?_)
  have h := h y20 ey20
  refine va_put (D := G.1) (ci := 6) (v := .int y20) (ty := .int) (C := RX6) (T := TX6) (N := 10) hx hb hts iX6_copyFrom_X6 tyX6 tyX6_ok nmX6 hown hKn.k hP hD hS 0 rfl rfl 9 (by decide) (hts _ lX6_copyFrom_f85) (fun _ h9 => h9) rfl (by decide +kernel) rfl rfl (Nat.le_of_ble_eq_true rfl) dX6_copyFrom_84 (fun H locs hP hD hS => ?_)
  obtain ⟨q21, eq21⟩ : ∃ z : qS, z = up2 q19 0 3 y20 := ⟨_, rfl⟩
  have hP : va_P G.1 vwCl (wQ G a q21 ++ (wQ G b o13 ++ R)) H := by rw [eq21]; exact hP
  have hD : va_D A (wQ G a q21 ++ (wQ G b o13 ++ R)) := by rw [eq21]; exact hD
  have h := h q21 eq21
  exact hret _ _ _ _ _ _ h hP hD hS dX6_copyFrom_87
abbrev rmX4_prepare : Room := { frames := 4, cells := 0, slots := 0, locals := 81 }
theorem lX4_prepare_f13 : Cond.fieldLink RX4 13 "QuarryBlends$History" "states" "[LQuarryBlends$Quarry;" ∈ wsX4_prepare := by decide +kernel
theorem lX4_prepare_f18 : Cond.fieldLink RX4 18 "QuarryBlends$History" "prepared" "I" ∈ wsX4_prepare := by decide +kernel
theorem lX4_prepare_nX9 : Cond.initialized RX9 ∈ wsX4_prepare := by decide +kernel
theorem lX4_prepare_sX9_within : Cond.static yX9_within ∈ wsX4_prepare := by decide +kernel
theorem iX4_prepare_X4 : ∀ w ∈ wsX40, w ∈ wsX4_prepare := by decide +kernel
set_option maxHeartbeats 4000000 in
set_option maxRecDepth 100000 in
theorem kX4_prepare_b26 {p : Program} {l : Launch} {e : Env} {s : State} {m : MethodId} {args : Array Value} {below : List Frame} {meth : Method} {c : Code} {G : qG} {A : Nat → Prop} {Qf : State → Prop} {R : va_W} {a : Nat → Nat} {b : Nat → Nat} {g : Nat → Nat} {ae : Nat → Nat} {az : Nat → Nat → Nat} {k : qS → qS → qS → qS → (Nat → qS) → Prop} (hx : p.tables.exec = Jvm.exec) (hb : c.code = cX4_prepare) (hml : c.maxLocals = 2) (hown : s.vm.findClass RX4 = some m.cls) (hts : ∀ w ∈ wsX4_prepare, w.before args s = true) (hA : ∀ q : Nat, s.heap.size ≤ q → A q) (hKn : qKn G A s s.heap) (hret : ∀ (q : qS) (o : qS) (d : qS) (tq : qS) (zs : (Nat → qS)) (H : Heap) (locs : List Loc) (ls : Array Slot) (pc : Nat), k q o d tq zs → va_P G.1 vwCl (wQ G a q ++ (wO G a b ae g az o ++ (wD G g d ++ (wQ G ae tq ++ (wZ G az zs ++ R))))) H → va_D A (wQ G a q ++ (wO G a b ae g az o ++ (wD G g d ++ (wQ G ae tq ++ (wZ G az zs ++ R))))) → va_S A s.heap H locs → decode cX4_prepare pc = .ok (.return_, 1) → W p l e rmX4_prepare s m args below meth c H locs 0 0 Qf (F0 m pc ls [])) : ∀ (q : qS) (o : qS) (d : qS) (tq : qS) (zs : (Nat → qS)) (H : Heap) (locs : List Loc) (ls : Array Slot), wX4_prepare_b26 k q o d tq zs → va_P G.1 vwCl (wQ G a q ++ (wO G a b ae g az o ++ (wD G g d ++ (wQ G ae tq ++ (wZ G az zs ++ R))))) H → va_D A (wQ G a q ++ (wO G a b ae g az o ++ (wD G g d ++ (wQ G ae tq ++ (wZ G az zs ++ R))))) → va_S A s.heap H locs → lv_has ls 2 [] → W p l e rmX4_prepare s m args below meth c H locs 0 0 Qf (F0 m 26 ls []) := by
  intro q o d tq zs H locs ls h hP hD hS hl
  unfold wX4_prepare_b26 at h
  exact hret _ _ _ _ _ _ _ _ _ h hP hD hS dX4_prepare_26
set_option maxHeartbeats 4000000 in
set_option maxRecDepth 100000 in
theorem mX4_prepare (l : Launch) (G : qG) (k : qS → qS → qS → qS → (Nat → qS) → Prop) (R : va_W) (a : Nat → Nat) (b : Nat → Nat) (g : Nat → Nat) (ae : Nat → Nat) (az : Nat → Nat → Nat) (q : qS) (o : qS) (d : qS) (tq : qS) (zs : (Nat → qS)) (sz : Nat) : Met l yX4_prepare wsX4_prepare rmX4_prepare (qPc G [.ref (b 1), .ref (a 0)] (wQ G a q ++ (wO G a b ae g az o ++ (wD G g d ++ (wQ G ae tq ++ (wZ G az zs ++ R))))) sz (wX4_prepare k q o d tq zs)) (qQv G (wQ G a q ++ (wO G a b ae g az o ++ (wD G g d ++ (wQ G ae tq ++ (wZ G az zs ++ R))))) sz (fun (u : qS × qS × qS × qS × (Nat → qS)) => k u.1 u.2.1 u.2.2.1 u.2.2.2.1 u.2.2.2.2) (fun (u : qS × qS × qS × qS × (Nat → qS)) => wQ G a u.1 ++ (wO G a b ae g az u.2.1 ++ (wD G g u.2.2.1 ++ (wQ G ae u.2.2.2.1 ++ (wZ G az u.2.2.2.2 ++ R)))))) 0 0 (va_A (wQ G a q ++ (wO G a b ae g az o ++ (wD G g d ++ (wQ G ae tq ++ (wZ G az zs ++ R))))) sz) := by
  refine Met.ofW (cc := cX4_prepare) (maxL := 2) (ret := none) (by decide) rfl ?_
  intro p e s m args below meth c s₁ B hml hv
  obtain ⟨rfl, hsz, hP, hD0, hKn0, h⟩ := hv
  have hx := B.exec
  have hb := B.bytes
  have hr := B.returns
  have hts := atoms_spec (ws := wsX4_prepare) B.pre
  have hown : s.vm.findClass RX4 = some m.cls := findClass_of_methodNamed B.named
  have hlocks := B.notSynchronized
  subst hsz
  have hD := hD0.self (sz := s.heap.size)
  generalize hAe : va_A (wQ G a q ++ (wO G a b ae g az o ++ (wD G g d ++ (wQ G ae tq ++ (wZ G az zs ++ R))))) s.heap.size = A at hD hKn0 ⊢
  have hA : ∀ q : Nat, s.heap.size ≤ q → A q := fun q h => by rw [← hAe]; exact Or.inr h
  have hKn : qKn G A s s.heap := hKn0
  have hS : va_S A s.heap s.heap [] := va_S.rf
  have hret : ∀ (q' : qS) (o' : qS) (d' : qS) (tq' : qS) (zs' : (Nat → qS)) (H : Heap) (locs : List Loc) (ls : Array Slot) (pc : Nat), k q' o' d' tq' zs' → va_P G.1 vwCl (wQ G a q' ++ (wO G a b ae g az o' ++ (wD G g d' ++ (wQ G ae tq' ++ (wZ G az zs' ++ R))))) H → va_D A (wQ G a q' ++ (wO G a b ae g az o' ++ (wD G g d' ++ (wQ G ae tq' ++ (wZ G az zs' ++ R))))) → va_S A s.heap H locs → decode cX4_prepare pc = .ok (.return_, 1) → W p l e rmX4_prepare s m #[.ref (b 1), .ref (a 0)] below meth c H locs 0 0 (MQ below (qQv G (wQ G a q ++ (wO G a b ae g az o ++ (wD G g d ++ (wQ G ae tq ++ (wZ G az zs ++ R))))) s.heap.size (fun (u : qS × qS × qS × qS × (Nat → qS)) => k u.1 u.2.1 u.2.2.1 u.2.2.2.1 u.2.2.2.2) (fun (u : qS × qS × qS × qS × (Nat → qS)) => wQ G a u.1 ++ (wO G a b ae g az u.2.1 ++ (wD G g u.2.2.1 ++ (wQ G ae u.2.2.2.1 ++ (wZ G az u.2.2.2.2 ++ R)))))) #[.ref (b 1), .ref (a 0)] s 0 0 A) (F0 m pc ls []) := fun q' o' d' tq' zs' H locs ls pc hk hP hD hS hd => W.vret hx hb hr (fun t ht hW => q_rv (u := (⟨q', o', d', tq', zs'⟩ : qS × qS × qS × qS × (Nat → qS))) hAe hk hP hD hS ht) hS.2.2 hd
  have hl := lv_entry ([.ref (b 1), .ref (a 0)]) (n := 2) (Nat.le_of_ble_eq_true rfl)
  rw [lg_entry_eq]
  generalize (lg_sl ([.ref (b 1), .ref (a 0)]) ++ List.replicate (2 - (lg_sl ([.ref (b 1), .ref (a 0)])).length) Slot.unset).toArray = ls at hl ⊢
  have hl : lv_has ls 2 [(0, .ref (b 1)), (1, .ref (a 0))] := hl
  unfold wX4_prepare at h
  show W p l e rmX4_prepare s m #[.ref (b 1), .ref (a 0)] below meth c s.heap [] 0 0 _ _
  refine lv_aload_n hx hb dX4_prepare_0 rfl (lv_at hl 0 rfl) ?_
  refine va_get (D := G.1) (ci := 4) (v := .int (o 0 0)) (C := RX4) (T := TX4) (N := 3) hx hb hts iX4_prepare_X4 hown hKn.k hP 19 rfl rfl 1 (by decide) (hts _ lX4_prepare_f18) (fun _ h9 => h9) rfl dX4_prepare_1 ?_
  refine lv_iconst (v := (0 : Int32)) hx hb dX4_prepare_4 (by decide) ?_
  refine lv_bipush (v := (6 : Int32)) hx hb dX4_prepare_5 (by decide) ?_
  refine qc_ni (As := [.int (o 0 0), .int (0 : Int32), .int (6 : Int32)]) (rest := []) ⟨hx, hb, hml, hown, hts⟩ (mX9_within l G _ _ _ (o 0 0) (0 : Int32) (6 : Int32)) ⟨va_cnB 3 hts gX4_prepare_X9_within_n22 rfl rfl rfl (hKn.2.1 _ (List.mem_of_getElem? (i := 8) rfl)) (hts _ lX4_prepare_nX9) (by decide +kernel) ⟨Nat.le_of_ble_eq_true rfl, Nat.le_of_ble_eq_true rfl⟩, (hts _ lX4_prepare_sX9_within), trivial⟩ hP hD hS hA hKn h rfl hl.1 rfl (Nat.le_of_ble_eq_true rfl) dX4_prepare_7 ⟨Nat.zero_le _, Nat.zero_le _⟩ (fun r1 _ H locs h hP hD hS => ?_)
  have hP : va_P G.1 vwCl (wQ G a q ++ (wO G a b ae g az o ++ (wD G g d ++ (wQ G ae tq ++ (wZ G az zs ++ R))))) H := hP
  have hD : va_D A (wQ G a q ++ (wO G a b ae g az o ++ (wD G g d ++ (wQ G ae tq ++ (wZ G az zs ++ R))))) := hD
  refine lv_if_eq (tgt := 26) hx hb dX4_prepare_10 (by decide) (fun c1 => ?_) (fun c1 => ?_)
  · have h := h.1 c1
    exact kX4_prepare_b26 hx hb hml hown hts hA hKn hret q o d tq zs _ _ _ h hP hD hS (lv_sub hl [] rfl)
  · have h := h.2 c1
    refine lv_aload_n hx hb dX4_prepare_13 rfl (lv_at hl 0 rfl) ?_
    refine va_get (D := G.1) (ci := 4) (v := .ref (b 2)) (C := RX4) (T := TX4) (N := 3) hx hb hts iX4_prepare_X4 hown hKn.k hP 19 rfl rfl 0 (by decide) (hts _ lX4_prepare_f13) (fun _ h9 => h9) rfl dX4_prepare_14 ?_
    refine lv_aload_n hx hb dX4_prepare_17 rfl (lv_at hl 0 rfl) ?_
    refine va_get (D := G.1) (ci := 4) (v := .int (o 0 0)) (C := RX4) (T := TX4) (N := 3) hx hb hts iX4_prepare_X4 hown hKn.k hP 19 rfl rfl 1 (by decide) (hts _ lX4_prepare_f18) (fun _ h9 => h9) rfl dX4_prepare_18 ?_
    obtain ⟨hin, h⟩ := h
    have hz := vp_lt hin
    refine va_aldq hx hb hKn.k hP 20 3 rfl rfl hin dX4_prepare_21 ?_
    refine lv_aload_n hx hb dX4_prepare_22 rfl (lv_at hl 1 rfl) ?_
    obtain ⟨hP, hD⟩ := q_perm (z_open (G := G) (zs := zs) (i := Int32.toNatClampNeg (o 0 0)) (by omega)) hP hD
    obtain ⟨hP, hD⟩ := q_perm (((((((List.perm_append_comm_assoc _ _ _).append_left _).trans (List.perm_append_comm_assoc _ _ _)).append_left _).trans (List.perm_append_comm_assoc _ _ _)).append_left _).trans (List.perm_append_comm_assoc _ _ _)) hP hD
    have hP : va_P G.1 vwCl (wQ G (az (Int32.toNatClampNeg (o 0 0))) (zs (Int32.toNatClampNeg (o 0 0))) ++ (wQ G a q ++ (wO G a b ae g az o ++ (wD G g d ++ (wQ G ae tq ++ (wZr G (Int32.toNatClampNeg (o 0 0)) az zs ++ R)))))) H := hP
    have hD : va_D A (wQ G (az (Int32.toNatClampNeg (o 0 0))) (zs (Int32.toNatClampNeg (o 0 0))) ++ (wQ G a q ++ (wO G a b ae g az o ++ (wD G g d ++ (wQ G ae tq ++ (wZr G (Int32.toNatClampNeg (o 0 0)) az zs ++ R)))))) := hD
    refine qc_vv (As := [.ref (a 0)]) (rest := []) ⟨hx, hb, hml, hown, hts⟩ (mX6_copyFrom l G _ _ (az (Int32.toNatClampNeg (o 0 0))) a (zs (Int32.toNatClampNeg (o 0 0))) q _ ) (cwV 1 hts gX4_prepare_X6_copyFrom rfl rfl rfl (by decide +kernel) ⟨Nat.le_of_ble_eq_true rfl, Nat.le_of_ble_eq_true rfl⟩) hP hD hS hA hKn 0 6 rfl rfl rfl h rfl hl.1 rfl (Nat.le_of_ble_eq_true rfl) dX4_prepare_23 ⟨Nat.zero_le _, Nat.zero_le _⟩ (fun u H locs h hP hD hS => ?_)
    obtain ⟨z3, q4⟩ := u
    have hP : va_P G.1 vwCl (wQ G (az (Int32.toNatClampNeg (o 0 0))) z3 ++ (wQ G a q4 ++ (wO G a b ae g az o ++ (wD G g d ++ (wQ G ae tq ++ (wZr G (Int32.toNatClampNeg (o 0 0)) az zs ++ R)))))) H := hP
    have hD : va_D A (wQ G (az (Int32.toNatClampNeg (o 0 0))) z3 ++ (wQ G a q4 ++ (wO G a b ae g az o ++ (wD G g d ++ (wQ G ae tq ++ (wZr G (Int32.toNatClampNeg (o 0 0)) az zs ++ R)))))) := hD
    obtain ⟨hP, hD⟩ := q_perm ((((((((List.perm_append_comm_assoc _ _ _).append_left _).trans (List.perm_append_comm_assoc _ _ _)).append_left _).trans (List.perm_append_comm_assoc _ _ _)).append_left _).trans (List.perm_append_comm_assoc _ _ _))).symm hP hD
    obtain ⟨hP, hD⟩ := q_perm (z_close (G := G) (zs := zs) (i := Int32.toNatClampNeg (o 0 0)) (by omega)) hP hD
    obtain ⟨zs5, ezs5⟩ : ∃ z : Nat → qS, z = upZ zs (Int32.toNatClampNeg (o 0 0)) z3 := ⟨_, rfl⟩
    rw [← ezs5] at hP hD
    have h := h zs5 ezs5
    have hP : va_P G.1 vwCl (wQ G a q4 ++ (wO G a b ae g az o ++ (wD G g d ++ (wQ G ae tq ++ (wZ G az zs5 ++ R))))) H := hP
    have hD : va_D A (wQ G a q4 ++ (wO G a b ae g az o ++ (wD G g d ++ (wQ G ae tq ++ (wZ G az zs5 ++ R))))) := hD
    exact kX4_prepare_b26 hx hb hml hown hts hA hKn hret q4 o d tq zs5 _ _ _ h hP hD hS (lv_sub hl [] rfl)
abbrev rmX4_keepPrepared : Room := { frames := 1, cells := 0, slots := 0, locals := 14 }
theorem lX4_keepPrepared_cmin : Cond.code Lib.Math.min.name Lib.Math.min.code 2 (some .int) ∈ wsX4_keepPrepared := by decide +kernel
theorem lX4_keepPrepared_f18 : Cond.fieldLink RX4 18 "QuarryBlends$History" "prepared" "I" ∈ wsX4_keepPrepared := by decide +kernel
theorem lX4_keepPrepared_f30 : Cond.fieldLink RX4 30 "QuarryBlends$History" "amount" "I" ∈ wsX4_keepPrepared := by decide +kernel
theorem lX4_keepPrepared_im : Cond.initialized "java/lang/Math" ∈ wsX4_keepPrepared := by decide +kernel
theorem lX4_keepPrepared_m33 : Cond.methodLink RX4 33 Lib.Math.min.name ∈ wsX4_keepPrepared := by decide +kernel
theorem lX4_keepPrepared_smin : Cond.static Lib.Math.min.name ∈ wsX4_keepPrepared := by decide +kernel
theorem iX4_keepPrepared_X4 : ∀ w ∈ wsX40, w ∈ wsX4_keepPrepared := by decide +kernel
set_option maxHeartbeats 4000000 in
set_option maxRecDepth 100000 in
theorem mX4_keepPrepared (l : Launch) (G : qG) (k : qS → qS → qS → qS → (Nat → qS) → Prop) (R : va_W) (a : Nat → Nat) (b : Nat → Nat) (g : Nat → Nat) (ae : Nat → Nat) (az : Nat → Nat → Nat) (q : qS) (o : qS) (d : qS) (tq : qS) (zs : (Nat → qS)) (sz : Nat) : Met l yX4_keepPrepared wsX4_keepPrepared rmX4_keepPrepared (qPc G [.ref (b 1)] (wQ G a q ++ (wO G a b ae g az o ++ (wD G g d ++ (wQ G ae tq ++ (wZ G az zs ++ R))))) sz (wX4_keepPrepared k q o d tq zs)) (qQv G (wQ G a q ++ (wO G a b ae g az o ++ (wD G g d ++ (wQ G ae tq ++ (wZ G az zs ++ R))))) sz (fun (u : qS × qS × qS × qS × (Nat → qS)) => k u.1 u.2.1 u.2.2.1 u.2.2.2.1 u.2.2.2.2) (fun (u : qS × qS × qS × qS × (Nat → qS)) => wQ G a u.1 ++ (wO G a b ae g az u.2.1 ++ (wD G g u.2.2.1 ++ (wQ G ae u.2.2.2.1 ++ (wZ G az u.2.2.2.2 ++ R)))))) 0 0 (va_A (wQ G a q ++ (wO G a b ae g az o ++ (wD G g d ++ (wQ G ae tq ++ (wZ G az zs ++ R))))) sz) := by
  refine Met.ofW (cc := cX4_keepPrepared) (maxL := 1) (ret := none) (by decide) rfl ?_
  intro p e s m args below meth c s₁ B hml hv
  obtain ⟨rfl, hsz, hP, hD0, hKn0, h⟩ := hv
  have hx := B.exec
  have hb := B.bytes
  have hr := B.returns
  have hts := atoms_spec (ws := wsX4_keepPrepared) B.pre
  have hown : s.vm.findClass RX4 = some m.cls := findClass_of_methodNamed B.named
  have hlocks := B.notSynchronized
  subst hsz
  have hD := hD0.self (sz := s.heap.size)
  generalize hAe : va_A (wQ G a q ++ (wO G a b ae g az o ++ (wD G g d ++ (wQ G ae tq ++ (wZ G az zs ++ R))))) s.heap.size = A at hD hKn0 ⊢
  have hA : ∀ q : Nat, s.heap.size ≤ q → A q := fun q h => by rw [← hAe]; exact Or.inr h
  have hKn : qKn G A s s.heap := hKn0
  have hS : va_S A s.heap s.heap [] := va_S.rf
  have hret : ∀ (q' : qS) (o' : qS) (d' : qS) (tq' : qS) (zs' : (Nat → qS)) (H : Heap) (locs : List Loc) (ls : Array Slot) (pc : Nat), k q' o' d' tq' zs' → va_P G.1 vwCl (wQ G a q' ++ (wO G a b ae g az o' ++ (wD G g d' ++ (wQ G ae tq' ++ (wZ G az zs' ++ R))))) H → va_D A (wQ G a q' ++ (wO G a b ae g az o' ++ (wD G g d' ++ (wQ G ae tq' ++ (wZ G az zs' ++ R))))) → va_S A s.heap H locs → decode cX4_keepPrepared pc = .ok (.return_, 1) → W p l e rmX4_keepPrepared s m #[.ref (b 1)] below meth c H locs 0 0 (MQ below (qQv G (wQ G a q ++ (wO G a b ae g az o ++ (wD G g d ++ (wQ G ae tq ++ (wZ G az zs ++ R))))) s.heap.size (fun (u : qS × qS × qS × qS × (Nat → qS)) => k u.1 u.2.1 u.2.2.1 u.2.2.2.1 u.2.2.2.2) (fun (u : qS × qS × qS × qS × (Nat → qS)) => wQ G a u.1 ++ (wO G a b ae g az u.2.1 ++ (wD G g u.2.2.1 ++ (wQ G ae u.2.2.2.1 ++ (wZ G az u.2.2.2.2 ++ R)))))) #[.ref (b 1)] s 0 0 A) (F0 m pc ls []) := fun q' o' d' tq' zs' H locs ls pc hk hP hD hS hd => W.vret hx hb hr (fun t ht hW => q_rv (u := (⟨q', o', d', tq', zs'⟩ : qS × qS × qS × qS × (Nat → qS))) hAe hk hP hD hS ht) hS.2.2 hd
  have hl := lv_entry ([.ref (b 1)]) (n := 1) (Nat.le_of_ble_eq_true rfl)
  rw [lg_entry_eq]
  generalize (lg_sl ([.ref (b 1)]) ++ List.replicate (1 - (lg_sl ([.ref (b 1)])).length) Slot.unset).toArray = ls at hl ⊢
  have hl : lv_has ls 1 [(0, .ref (b 1))] := hl
  unfold wX4_keepPrepared at h
  show W p l e rmX4_keepPrepared s m #[.ref (b 1)] below meth c s.heap [] 0 0 _ _
  refine lv_aload_n hx hb dX4_keepPrepared_0 rfl (lv_at hl 0 rfl) ?_
  refine lv_aload_n hx hb dX4_keepPrepared_1 rfl (lv_at hl 0 rfl) ?_
  refine va_get (D := G.1) (ci := 4) (v := .int (o 0 0)) (C := RX4) (T := TX4) (N := 3) hx hb hts iX4_keepPrepared_X4 hown hKn.k hP 19 rfl rfl 1 (by decide) (hts _ lX4_keepPrepared_f18) (fun _ h9 => h9) rfl dX4_keepPrepared_2 ?_
  refine lv_iconst (v := (1 : Int32)) hx hb dX4_keepPrepared_5 (by decide) ?_
  refine lv_iadd hx hb dX4_keepPrepared_6 ?_
  refine lv_bipush (v := (7 : Int32)) hx hb dX4_keepPrepared_7 (by decide) ?_
  refine lv_irem hx hb dX4_keepPrepared_9 (by decide) ?_
  refine lv_topi (fun y1 ey1 => ?_)
  have h := h y1 ey1
  refine va_put (D := G.1) (ci := 4) (v := .int y1) (ty := .int) (C := RX4) (T := TX4) (N := 3) hx hb hts iX4_keepPrepared_X4 tyX4 tyX4_ok nmX4 hown hKn.k hP hD hS 19 rfl rfl 1 (by decide) (hts _ lX4_keepPrepared_f18) (fun _ h9 => h9) rfl (by decide +kernel) rfl rfl (Nat.le_of_ble_eq_true rfl) dX4_keepPrepared_10 (fun H locs hP hD hS => ?_)
  obtain ⟨o2, eo2⟩ : ∃ z : qS, z = up2 o 0 0 y1 := ⟨_, rfl⟩
  have hP : va_P G.1 vwCl (wQ G a q ++ (wO G a b ae g az o2 ++ (wD G g d ++ (wQ G ae tq ++ (wZ G az zs ++ R))))) H := by rw [eo2]; exact hP
  have hD : va_D A (wQ G a q ++ (wO G a b ae g az o2 ++ (wD G g d ++ (wQ G ae tq ++ (wZ G az zs ++ R))))) := by rw [eo2]; exact hD
  have h := h o2 eo2
  refine lv_aload_n hx hb dX4_keepPrepared_13 rfl (lv_at hl 0 rfl) ?_
  refine lv_aload_n hx hb dX4_keepPrepared_14 rfl (lv_at hl 0 rfl) ?_
  refine va_get (D := G.1) (ci := 4) (v := .int (o2 0 1)) (C := RX4) (T := TX4) (N := 3) hx hb hts iX4_keepPrepared_X4 hown hKn.k hP 19 rfl rfl 2 (by decide) (hts _ lX4_keepPrepared_f30) (fun _ h9 => h9) rfl dX4_keepPrepared_15 ?_
  refine lv_iconst (v := (1 : Int32)) hx hb dX4_keepPrepared_18 (by decide) ?_
  refine lv_iadd hx hb dX4_keepPrepared_19 ?_
  refine lv_bipush (v := (6 : Int32)) hx hb dX4_keepPrepared_20 (by decide) ?_
  refine va_mmin hx hb (hml.trans hl.1.symm) hown (hts _ lX4_keepPrepared_m33) (hts _ lX4_keepPrepared_smin) (hts _ lX4_keepPrepared_im) (hts _ lX4_keepPrepared_cmin) (Nat.le_of_ble_eq_true rfl) (Nat.le_of_ble_eq_true rfl) (Nat.zero_le _) (Nat.zero_le _) dX4_keepPrepared_22 ?_
  refine lv_topi (fun y3 ey3 => ?_)
  have h := h y3 ey3
  refine va_put (D := G.1) (ci := 4) (v := .int y3) (ty := .int) (C := RX4) (T := TX4) (N := 3) hx hb hts iX4_keepPrepared_X4 tyX4 tyX4_ok nmX4 hown hKn.k hP hD hS 19 rfl rfl 2 (by decide) (hts _ lX4_keepPrepared_f30) (fun _ h9 => h9) rfl (by decide +kernel) rfl rfl (Nat.le_of_ble_eq_true rfl) dX4_keepPrepared_25 (fun H locs hP hD hS => ?_)
  obtain ⟨o4, eo4⟩ : ∃ z : qS, z = up2 o2 0 1 y3 := ⟨_, rfl⟩
  have hP : va_P G.1 vwCl (wQ G a q ++ (wO G a b ae g az o4 ++ (wD G g d ++ (wQ G ae tq ++ (wZ G az zs ++ R))))) H := by rw [eo4]; exact hP
  have hD : va_D A (wQ G a q ++ (wO G a b ae g az o4 ++ (wD G g d ++ (wQ G ae tq ++ (wZ G az zs ++ R))))) := by rw [eo4]; exact hD
  have h := h o4 eo4
  exact hret _ _ _ _ _ _ _ _ _ h hP hD hS dX4_keepPrepared_28
abbrev rmX4_takeLatest : Room := { frames := 4, cells := 0, slots := 0, locals := 81 }
theorem lX4_takeLatest_f13 : Cond.fieldLink RX4 13 "QuarryBlends$History" "states" "[LQuarryBlends$Quarry;" ∈ wsX4_takeLatest := by decide +kernel
theorem lX4_takeLatest_f18 : Cond.fieldLink RX4 18 "QuarryBlends$History" "prepared" "I" ∈ wsX4_takeLatest := by decide +kernel
theorem lX4_takeLatest_f30 : Cond.fieldLink RX4 30 "QuarryBlends$History" "amount" "I" ∈ wsX4_takeLatest := by decide +kernel
theorem lX4_takeLatest_nX9 : Cond.initialized RX9 ∈ wsX4_takeLatest := by decide +kernel
theorem lX4_takeLatest_sX9_within : Cond.static yX9_within ∈ wsX4_takeLatest := by decide +kernel
theorem iX4_takeLatest_X4 : ∀ w ∈ wsX40, w ∈ wsX4_takeLatest := by decide +kernel
set_option maxHeartbeats 4000000 in
set_option maxRecDepth 100000 in
theorem kX4_takeLatest_b52 {p : Program} {l : Launch} {e : Env} {s : State} {m : MethodId} {args : Array Value} {below : List Frame} {meth : Method} {c : Code} {G : qG} {A : Nat → Prop} {Qf : State → Prop} {R : va_W} {a : Nat → Nat} {b : Nat → Nat} {g : Nat → Nat} {ae : Nat → Nat} {az : Nat → Nat → Nat} {k : qS → qS → qS → qS → (Nat → qS) → Prop} (hx : p.tables.exec = Jvm.exec) (hb : c.code = cX4_takeLatest) (hml : c.maxLocals = 2) (hown : s.vm.findClass RX4 = some m.cls) (hts : ∀ w ∈ wsX4_takeLatest, w.before args s = true) (hA : ∀ q : Nat, s.heap.size ≤ q → A q) (hKn : qKn G A s s.heap) (hret : ∀ (q : qS) (o : qS) (d : qS) (tq : qS) (zs : (Nat → qS)) (H : Heap) (locs : List Loc) (ls : Array Slot) (pc : Nat), k q o d tq zs → va_P G.1 vwCl (wQ G a q ++ (wO G a b ae g az o ++ (wD G g d ++ (wQ G ae tq ++ (wZ G az zs ++ R))))) H → va_D A (wQ G a q ++ (wO G a b ae g az o ++ (wD G g d ++ (wQ G ae tq ++ (wZ G az zs ++ R))))) → va_S A s.heap H locs → decode cX4_takeLatest pc = .ok (.return_, 1) → W p l e rmX4_takeLatest s m args below meth c H locs 0 0 Qf (F0 m pc ls [])) : ∀ (q : qS) (o : qS) (d : qS) (tq : qS) (zs : (Nat → qS)) (H : Heap) (locs : List Loc) (ls : Array Slot), wX4_takeLatest_b52 k q o d tq zs → va_P G.1 vwCl (wQ G a q ++ (wO G a b ae g az o ++ (wD G g d ++ (wQ G ae tq ++ (wZ G az zs ++ R))))) H → va_D A (wQ G a q ++ (wO G a b ae g az o ++ (wD G g d ++ (wQ G ae tq ++ (wZ G az zs ++ R))))) → va_S A s.heap H locs → lv_has ls 2 [] → W p l e rmX4_takeLatest s m args below meth c H locs 0 0 Qf (F0 m 52 ls []) := by
  intro q o d tq zs H locs ls h hP hD hS hl
  unfold wX4_takeLatest_b52 at h
  exact hret _ _ _ _ _ _ _ _ _ h hP hD hS dX4_takeLatest_52
set_option maxHeartbeats 4000000 in
set_option maxRecDepth 100000 in
theorem mX4_takeLatest (l : Launch) (G : qG) (k : qS → qS → qS → qS → (Nat → qS) → Prop) (R : va_W) (a : Nat → Nat) (b : Nat → Nat) (g : Nat → Nat) (ae : Nat → Nat) (az : Nat → Nat → Nat) (q : qS) (o : qS) (d : qS) (tq : qS) (zs : (Nat → qS)) (sz : Nat) : Met l yX4_takeLatest wsX4_takeLatest rmX4_takeLatest (qPc G [.ref (b 1), .ref (a 0)] (wQ G a q ++ (wO G a b ae g az o ++ (wD G g d ++ (wQ G ae tq ++ (wZ G az zs ++ R))))) sz (wX4_takeLatest k q o d tq zs)) (qQv G (wQ G a q ++ (wO G a b ae g az o ++ (wD G g d ++ (wQ G ae tq ++ (wZ G az zs ++ R))))) sz (fun (u : qS × qS × qS × qS × (Nat → qS)) => k u.1 u.2.1 u.2.2.1 u.2.2.2.1 u.2.2.2.2) (fun (u : qS × qS × qS × qS × (Nat → qS)) => wQ G a u.1 ++ (wO G a b ae g az u.2.1 ++ (wD G g u.2.2.1 ++ (wQ G ae u.2.2.2.1 ++ (wZ G az u.2.2.2.2 ++ R)))))) 0 0 (va_A (wQ G a q ++ (wO G a b ae g az o ++ (wD G g d ++ (wQ G ae tq ++ (wZ G az zs ++ R))))) sz) := by
  refine Met.ofW (cc := cX4_takeLatest) (maxL := 2) (ret := none) (by decide) rfl ?_
  intro p e s m args below meth c s₁ B hml hv
  obtain ⟨rfl, hsz, hP, hD0, hKn0, h⟩ := hv
  have hx := B.exec
  have hb := B.bytes
  have hr := B.returns
  have hts := atoms_spec (ws := wsX4_takeLatest) B.pre
  have hown : s.vm.findClass RX4 = some m.cls := findClass_of_methodNamed B.named
  have hlocks := B.notSynchronized
  subst hsz
  have hD := hD0.self (sz := s.heap.size)
  generalize hAe : va_A (wQ G a q ++ (wO G a b ae g az o ++ (wD G g d ++ (wQ G ae tq ++ (wZ G az zs ++ R))))) s.heap.size = A at hD hKn0 ⊢
  have hA : ∀ q : Nat, s.heap.size ≤ q → A q := fun q h => by rw [← hAe]; exact Or.inr h
  have hKn : qKn G A s s.heap := hKn0
  have hS : va_S A s.heap s.heap [] := va_S.rf
  have hret : ∀ (q' : qS) (o' : qS) (d' : qS) (tq' : qS) (zs' : (Nat → qS)) (H : Heap) (locs : List Loc) (ls : Array Slot) (pc : Nat), k q' o' d' tq' zs' → va_P G.1 vwCl (wQ G a q' ++ (wO G a b ae g az o' ++ (wD G g d' ++ (wQ G ae tq' ++ (wZ G az zs' ++ R))))) H → va_D A (wQ G a q' ++ (wO G a b ae g az o' ++ (wD G g d' ++ (wQ G ae tq' ++ (wZ G az zs' ++ R))))) → va_S A s.heap H locs → decode cX4_takeLatest pc = .ok (.return_, 1) → W p l e rmX4_takeLatest s m #[.ref (b 1), .ref (a 0)] below meth c H locs 0 0 (MQ below (qQv G (wQ G a q ++ (wO G a b ae g az o ++ (wD G g d ++ (wQ G ae tq ++ (wZ G az zs ++ R))))) s.heap.size (fun (u : qS × qS × qS × qS × (Nat → qS)) => k u.1 u.2.1 u.2.2.1 u.2.2.2.1 u.2.2.2.2) (fun (u : qS × qS × qS × qS × (Nat → qS)) => wQ G a u.1 ++ (wO G a b ae g az u.2.1 ++ (wD G g u.2.2.1 ++ (wQ G ae u.2.2.2.1 ++ (wZ G az u.2.2.2.2 ++ R)))))) #[.ref (b 1), .ref (a 0)] s 0 0 A) (F0 m pc ls []) := fun q' o' d' tq' zs' H locs ls pc hk hP hD hS hd => W.vret hx hb hr (fun t ht hW => q_rv (u := (⟨q', o', d', tq', zs'⟩ : qS × qS × qS × qS × (Nat → qS))) hAe hk hP hD hS ht) hS.2.2 hd
  have hl := lv_entry ([.ref (b 1), .ref (a 0)]) (n := 2) (Nat.le_of_ble_eq_true rfl)
  rw [lg_entry_eq]
  generalize (lg_sl ([.ref (b 1), .ref (a 0)]) ++ List.replicate (2 - (lg_sl ([.ref (b 1), .ref (a 0)])).length) Slot.unset).toArray = ls at hl ⊢
  have hl : lv_has ls 2 [(0, .ref (b 1)), (1, .ref (a 0))] := hl
  unfold wX4_takeLatest at h
  show W p l e rmX4_takeLatest s m #[.ref (b 1), .ref (a 0)] below meth c s.heap [] 0 0 _ _
  refine lv_aload_n hx hb dX4_takeLatest_0 rfl (lv_at hl 0 rfl) ?_
  refine lv_aload_n hx hb dX4_takeLatest_1 rfl (lv_at hl 0 rfl) ?_
  refine va_get (D := G.1) (ci := 4) (v := .int (o 0 0)) (C := RX4) (T := TX4) (N := 3) hx hb hts iX4_takeLatest_X4 hown hKn.k hP 19 rfl rfl 1 (by decide) (hts _ lX4_takeLatest_f18) (fun _ h9 => h9) rfl dX4_takeLatest_2 ?_
  refine lv_bipush (v := (7 : Int32)) hx hb dX4_takeLatest_5 (by decide) ?_
  refine lv_iadd hx hb dX4_takeLatest_7 ?_
  refine lv_iconst (v := (1 : Int32)) hx hb dX4_takeLatest_8 (by decide) ?_
  refine lv_isub hx hb dX4_takeLatest_9 ?_
  refine lv_bipush (v := (7 : Int32)) hx hb dX4_takeLatest_10 (by decide) ?_
  refine lv_irem hx hb dX4_takeLatest_12 (by decide) ?_
  refine lv_topi (fun y1 ey1 => ?_)
  have h := h y1 ey1
  refine va_put (D := G.1) (ci := 4) (v := .int y1) (ty := .int) (C := RX4) (T := TX4) (N := 3) hx hb hts iX4_takeLatest_X4 tyX4 tyX4_ok nmX4 hown hKn.k hP hD hS 19 rfl rfl 1 (by decide) (hts _ lX4_takeLatest_f18) (fun _ h9 => h9) rfl (by decide +kernel) rfl rfl (Nat.le_of_ble_eq_true rfl) dX4_takeLatest_13 (fun H locs hP hD hS => ?_)
  obtain ⟨o2, eo2⟩ : ∃ z : qS, z = up2 o 0 0 y1 := ⟨_, rfl⟩
  have hP : va_P G.1 vwCl (wQ G a q ++ (wO G a b ae g az o2 ++ (wD G g d ++ (wQ G ae tq ++ (wZ G az zs ++ R))))) H := by rw [eo2]; exact hP
  have hD : va_D A (wQ G a q ++ (wO G a b ae g az o2 ++ (wD G g d ++ (wQ G ae tq ++ (wZ G az zs ++ R))))) := by rw [eo2]; exact hD
  have h := h o2 eo2
  refine lv_aload_n hx hb dX4_takeLatest_16 rfl (lv_at hl 0 rfl) ?_
  refine lv_dup hx hb dX4_takeLatest_17 rfl ?_
  refine va_get (D := G.1) (ci := 4) (v := .int (o2 0 1)) (C := RX4) (T := TX4) (N := 3) hx hb hts iX4_takeLatest_X4 hown hKn.k hP 19 rfl rfl 2 (by decide) (hts _ lX4_takeLatest_f30) (fun _ h9 => h9) rfl dX4_takeLatest_18 ?_
  refine lv_iconst (v := (1 : Int32)) hx hb dX4_takeLatest_21 (by decide) ?_
  refine lv_isub hx hb dX4_takeLatest_22 ?_
  refine lv_topi (fun y3 ey3 => ?_)
  have h := h y3 ey3
  refine va_put (D := G.1) (ci := 4) (v := .int y3) (ty := .int) (C := RX4) (T := TX4) (N := 3) hx hb hts iX4_takeLatest_X4 tyX4 tyX4_ok nmX4 hown hKn.k hP hD hS 19 rfl rfl 2 (by decide) (hts _ lX4_takeLatest_f30) (fun _ h9 => h9) rfl (by decide +kernel) rfl rfl (Nat.le_of_ble_eq_true rfl) dX4_takeLatest_23 (fun H locs hP hD hS => ?_)
  obtain ⟨o4, eo4⟩ : ∃ z : qS, z = up2 o2 0 1 y3 := ⟨_, rfl⟩
  have hP : va_P G.1 vwCl (wQ G a q ++ (wO G a b ae g az o4 ++ (wD G g d ++ (wQ G ae tq ++ (wZ G az zs ++ R))))) H := by rw [eo4]; exact hP
  have hD : va_D A (wQ G a q ++ (wO G a b ae g az o4 ++ (wD G g d ++ (wQ G ae tq ++ (wZ G az zs ++ R))))) := by rw [eo4]; exact hD
  have h := h o4 eo4
  refine lv_aload_n hx hb dX4_takeLatest_26 rfl (lv_at hl 0 rfl) ?_
  refine va_get (D := G.1) (ci := 4) (v := .int (o4 0 0)) (C := RX4) (T := TX4) (N := 3) hx hb hts iX4_takeLatest_X4 hown hKn.k hP 19 rfl rfl 1 (by decide) (hts _ lX4_takeLatest_f18) (fun _ h9 => h9) rfl dX4_takeLatest_27 ?_
  refine lv_iconst (v := (0 : Int32)) hx hb dX4_takeLatest_30 (by decide) ?_
  refine lv_bipush (v := (6 : Int32)) hx hb dX4_takeLatest_31 (by decide) ?_
  refine qc_ni (As := [.int (o4 0 0), .int (0 : Int32), .int (6 : Int32)]) (rest := []) ⟨hx, hb, hml, hown, hts⟩ (mX9_within l G _ _ _ (o4 0 0) (0 : Int32) (6 : Int32)) ⟨va_cnB 3 hts gX4_takeLatest_X9_within_n22 rfl rfl rfl (hKn.2.1 _ (List.mem_of_getElem? (i := 8) rfl)) (hts _ lX4_takeLatest_nX9) (by decide +kernel) ⟨Nat.le_of_ble_eq_true rfl, Nat.le_of_ble_eq_true rfl⟩, (hts _ lX4_takeLatest_sX9_within), trivial⟩ hP hD hS hA hKn h rfl hl.1 rfl (Nat.le_of_ble_eq_true rfl) dX4_takeLatest_33 ⟨Nat.zero_le _, Nat.zero_le _⟩ (fun r5 _ H locs h hP hD hS => ?_)
  have hP : va_P G.1 vwCl (wQ G a q ++ (wO G a b ae g az o4 ++ (wD G g d ++ (wQ G ae tq ++ (wZ G az zs ++ R))))) H := hP
  have hD : va_D A (wQ G a q ++ (wO G a b ae g az o4 ++ (wD G g d ++ (wQ G ae tq ++ (wZ G az zs ++ R))))) := hD
  refine lv_if_eq (tgt := 52) hx hb dX4_takeLatest_36 (by decide) (fun c1 => ?_) (fun c1 => ?_)
  · have h := h.1 c1
    exact kX4_takeLatest_b52 hx hb hml hown hts hA hKn hret q o4 d tq zs _ _ _ h hP hD hS (lv_sub hl [] rfl)
  · have h := h.2 c1
    refine lv_aload_n hx hb dX4_takeLatest_39 rfl (lv_at hl 1 rfl) ?_
    refine lv_aload_n hx hb dX4_takeLatest_40 rfl (lv_at hl 0 rfl) ?_
    refine va_get (D := G.1) (ci := 4) (v := .ref (b 2)) (C := RX4) (T := TX4) (N := 3) hx hb hts iX4_takeLatest_X4 hown hKn.k hP 19 rfl rfl 0 (by decide) (hts _ lX4_takeLatest_f13) (fun _ h9 => h9) rfl dX4_takeLatest_41 ?_
    refine lv_aload_n hx hb dX4_takeLatest_44 rfl (lv_at hl 0 rfl) ?_
    refine va_get (D := G.1) (ci := 4) (v := .int (o4 0 0)) (C := RX4) (T := TX4) (N := 3) hx hb hts iX4_takeLatest_X4 hown hKn.k hP 19 rfl rfl 1 (by decide) (hts _ lX4_takeLatest_f18) (fun _ h9 => h9) rfl dX4_takeLatest_45 ?_
    obtain ⟨hin, h⟩ := h
    have hz := vp_lt hin
    refine va_aldq hx hb hKn.k hP 20 3 rfl rfl hin dX4_takeLatest_48 ?_
    obtain ⟨hP, hD⟩ := q_perm (z_open (G := G) (zs := zs) (i := Int32.toNatClampNeg (o4 0 0)) (by omega)) hP hD
    obtain ⟨hP, hD⟩ := q_perm ((((((((List.perm_append_comm_assoc _ _ _).append_left _).trans (List.perm_append_comm_assoc _ _ _)).append_left _).trans (List.perm_append_comm_assoc _ _ _)).append_left _).trans (List.perm_append_comm_assoc _ _ _)).trans (List.perm_append_comm_assoc _ _ _)) hP hD
    have hP : va_P G.1 vwCl (wQ G a q ++ (wQ G (az (Int32.toNatClampNeg (o4 0 0))) (zs (Int32.toNatClampNeg (o4 0 0))) ++ (wO G a b ae g az o4 ++ (wD G g d ++ (wQ G ae tq ++ (wZr G (Int32.toNatClampNeg (o4 0 0)) az zs ++ R)))))) H := hP
    have hD : va_D A (wQ G a q ++ (wQ G (az (Int32.toNatClampNeg (o4 0 0))) (zs (Int32.toNatClampNeg (o4 0 0))) ++ (wO G a b ae g az o4 ++ (wD G g d ++ (wQ G ae tq ++ (wZr G (Int32.toNatClampNeg (o4 0 0)) az zs ++ R)))))) := hD
    refine qc_vv (As := [.ref (az (Int32.toNatClampNeg (o4 0 0)) 0)]) (rest := []) ⟨hx, hb, hml, hown, hts⟩ (mX6_copyFrom l G _ _ a (az (Int32.toNatClampNeg (o4 0 0))) q (zs (Int32.toNatClampNeg (o4 0 0))) _ ) (cwV 1 hts gX4_takeLatest_X6_copyFrom rfl rfl rfl (by decide +kernel) ⟨Nat.le_of_ble_eq_true rfl, Nat.le_of_ble_eq_true rfl⟩) hP hD hS hA hKn 0 6 rfl rfl rfl h rfl hl.1 rfl (Nat.le_of_ble_eq_true rfl) dX4_takeLatest_49 ⟨Nat.zero_le _, Nat.zero_le _⟩ (fun u H locs h hP hD hS => ?_)
    obtain ⟨q7, z8⟩ := u
    have hP : va_P G.1 vwCl (wQ G a q7 ++ (wQ G (az (Int32.toNatClampNeg (o4 0 0))) z8 ++ (wO G a b ae g az o4 ++ (wD G g d ++ (wQ G ae tq ++ (wZr G (Int32.toNatClampNeg (o4 0 0)) az zs ++ R)))))) H := hP
    have hD : va_D A (wQ G a q7 ++ (wQ G (az (Int32.toNatClampNeg (o4 0 0))) z8 ++ (wO G a b ae g az o4 ++ (wD G g d ++ (wQ G ae tq ++ (wZr G (Int32.toNatClampNeg (o4 0 0)) az zs ++ R)))))) := hD
    obtain ⟨hP, hD⟩ := q_perm (((((((((List.perm_append_comm_assoc _ _ _).append_left _).trans (List.perm_append_comm_assoc _ _ _)).append_left _).trans (List.perm_append_comm_assoc _ _ _)).append_left _).trans (List.perm_append_comm_assoc _ _ _)).trans (List.perm_append_comm_assoc _ _ _))).symm hP hD
    obtain ⟨hP, hD⟩ := q_perm (z_close (G := G) (zs := zs) (i := Int32.toNatClampNeg (o4 0 0)) (by omega)) hP hD
    obtain ⟨zs9, ezs9⟩ : ∃ z : Nat → qS, z = upZ zs (Int32.toNatClampNeg (o4 0 0)) z8 := ⟨_, rfl⟩
    rw [← ezs9] at hP hD
    have h := h zs9 ezs9
    have hP : va_P G.1 vwCl (wQ G a q7 ++ (wO G a b ae g az o4 ++ (wD G g d ++ (wQ G ae tq ++ (wZ G az zs9 ++ R))))) H := hP
    have hD : va_D A (wQ G a q7 ++ (wO G a b ae g az o4 ++ (wD G g d ++ (wQ G ae tq ++ (wZ G az zs9 ++ R))))) := hD
    exact kX4_takeLatest_b52 hx hb hml hown hts hA hKn hret q7 o4 d tq zs9 _ _ _ h hP hD hS (lv_sub hl [] rfl)
abbrev rmX7_has : Room := { frames := 1, cells := 0, slots := 0, locals := 22 }
theorem lX7_has_nX9 : Cond.initialized RX9 ∈ wsX7_has := by decide +kernel
theorem lX7_has_sX9_within : Cond.static yX9_within ∈ wsX7_has := by decide +kernel
set_option maxHeartbeats 4000000 in
set_option maxRecDepth 100000 in
theorem mX7_has (l : Launch) (G : qG) (k : Int32 → qS → qS → qS → qS → (Nat → qS) → Prop) (R : va_W) (a : Nat → Nat) (b : Nat → Nat) (g : Nat → Nat) (ae : Nat → Nat) (az : Nat → Nat → Nat) (q : qS) (o : qS) (d : qS) (tq : qS) (zs : (Nat → qS)) (sz : Nat) (p0 : Int32) : Met l yX7_has wsX7_has rmX7_has (qPc G [.ref (b 3), .int p0] (wQ G a q ++ (wO G a b ae g az o ++ (wD G g d ++ (wQ G ae tq ++ (wZ G az zs ++ R))))) sz (wX7_has k q o d tq zs p0)) (qQi G (wQ G a q ++ (wO G a b ae g az o ++ (wD G g d ++ (wQ G ae tq ++ (wZ G az zs ++ R))))) sz (fun (r : Int32) (u : qS × qS × qS × qS × (Nat → qS)) => k r u.1 u.2.1 u.2.2.1 u.2.2.2.1 u.2.2.2.2) (fun (u : qS × qS × qS × qS × (Nat → qS)) => wQ G a u.1 ++ (wO G a b ae g az u.2.1 ++ (wD G g u.2.2.1 ++ (wQ G ae u.2.2.2.1 ++ (wZ G az u.2.2.2.2 ++ R)))))) 0 0 (va_A (wQ G a q ++ (wO G a b ae g az o ++ (wD G g d ++ (wQ G ae tq ++ (wZ G az zs ++ R))))) sz) := by
  refine Met.ofW (cc := cX7_has) (maxL := 2) (ret := (some .boolean)) (by decide) rfl ?_
  intro p e s m args below meth c s₁ B hml hv
  obtain ⟨rfl, hsz, hP, hD0, hKn0, h⟩ := hv
  have hx := B.exec
  have hb := B.bytes
  have hr := B.returns
  have hts := atoms_spec (ws := wsX7_has) B.pre
  have hown : s.vm.findClass RX7 = some m.cls := findClass_of_methodNamed B.named
  have hlocks := B.notSynchronized
  subst hsz
  have hD := hD0.self (sz := s.heap.size)
  generalize hAe : va_A (wQ G a q ++ (wO G a b ae g az o ++ (wD G g d ++ (wQ G ae tq ++ (wZ G az zs ++ R))))) s.heap.size = A at hD hKn0 ⊢
  have hA : ∀ q : Nat, s.heap.size ≤ q → A q := fun q h => by rw [← hAe]; exact Or.inr h
  have hKn : qKn G A s s.heap := hKn0
  have hS : va_S A s.heap s.heap [] := va_S.rf
  have hret : ∀ (r : Int32) (q' : qS) (o' : qS) (d' : qS) (tq' : qS) (zs' : (Nat → qS)) (H : Heap) (locs : List Loc) (ls : Array Slot) (pc : Nat), k r q' o' d' tq' zs' → narrow .boolean (.int r) = .int r → va_P G.1 vwCl (wQ G a q' ++ (wO G a b ae g az o' ++ (wD G g d' ++ (wQ G ae tq' ++ (wZ G az zs' ++ R))))) H → va_D A (wQ G a q' ++ (wO G a b ae g az o' ++ (wD G g d' ++ (wQ G ae tq' ++ (wZ G az zs' ++ R))))) → va_S A s.heap H locs → decode cX7_has pc = .ok (.ireturn, 1) → W p l e rmX7_has s m #[.ref (b 3), .int p0] below meth c H locs 0 0 (MQ below (qQi G (wQ G a q ++ (wO G a b ae g az o ++ (wD G g d ++ (wQ G ae tq ++ (wZ G az zs ++ R))))) s.heap.size (fun (r : Int32) (u : qS × qS × qS × qS × (Nat → qS)) => k r u.1 u.2.1 u.2.2.1 u.2.2.2.1 u.2.2.2.2) (fun (u : qS × qS × qS × qS × (Nat → qS)) => wQ G a u.1 ++ (wO G a b ae g az u.2.1 ++ (wD G g u.2.2.1 ++ (wQ G ae u.2.2.2.1 ++ (wZ G az u.2.2.2.2 ++ R)))))) #[.ref (b 3), .int p0] s 0 0 A) (F0 m pc ls [.int r]) := fun r q' o' d' tq' zs' H locs ls pc hk hn hP hD hS hd => W.zret hx hb hr hn (fun t ht hW => q_ri (u := (⟨q', o', d', tq', zs'⟩ : qS × qS × qS × qS × (Nat → qS))) hAe hk hP hD hS ht) hS.2.2 hd
  have hl := lv_entry ([.ref (b 3), .int p0]) (n := 2) (Nat.le_of_ble_eq_true rfl)
  rw [lg_entry_eq]
  generalize (lg_sl ([.ref (b 3), .int p0]) ++ List.replicate (2 - (lg_sl ([.ref (b 3), .int p0])).length) Slot.unset).toArray = ls at hl ⊢
  have hl : lv_has ls 2 [(0, .ref (b 3)), (1, .int p0)] := hl
  unfold wX7_has at h
  show W p l e rmX7_has s m #[.ref (b 3), .int p0] below meth c s.heap [] 0 0 _ _
  refine lv_iload_n hx hb dX7_has_0 rfl (lv_at hl 1 rfl) ?_
  refine lv_iconst (v := (0 : Int32)) hx hb dX7_has_1 (by decide) ?_
  refine lv_iconst (v := (1 : Int32)) hx hb dX7_has_2 (by decide) ?_
  refine qc_ni (As := [.int p0, .int (0 : Int32), .int (1 : Int32)]) (rest := []) ⟨hx, hb, hml, hown, hts⟩ (mX9_within l G _ _ _ p0 (0 : Int32) (1 : Int32)) ⟨va_cnB 3 hts gX7_has_X9_within_n22 rfl rfl rfl (hKn.2.1 _ (List.mem_of_getElem? (i := 20) rfl)) (hts _ lX7_has_nX9) (by decide +kernel) ⟨Nat.le_of_ble_eq_true rfl, Nat.le_of_ble_eq_true rfl⟩, (hts _ lX7_has_sX9_within), trivial⟩ hP hD hS hA hKn h rfl hl.1 rfl (Nat.le_of_ble_eq_true rfl) dX7_has_3 ⟨Nat.zero_le _, Nat.zero_le _⟩ (fun r1 _ H locs h hP hD hS => ?_)
  have hP : va_P G.1 vwCl (wQ G a q ++ (wO G a b ae g az o ++ (wD G g d ++ (wQ G ae tq ++ (wZ G az zs ++ R))))) H := hP
  have hD : va_D A (wQ G a q ++ (wO G a b ae g az o ++ (wD G g d ++ (wQ G ae tq ++ (wZ G az zs ++ R))))) := hD
  obtain ⟨hn1, h⟩ := h
  exact hret _ _ _ _ _ _ _ _ _ _ h hn1 hP hD hS dX7_has_6
abbrev rmX7_fill : Room := { frames := 4, cells := 0, slots := 0, locals := 81 }
theorem lX7_fill_f11 : Cond.fieldLink RX7 11 "QuarryBlends$Slots" "states" "[LQuarryBlends$Quarry;" ∈ wsX7_fill := by decide +kernel
theorem lX7_fill_f17 : Cond.fieldLink RX7 17 "QuarryBlends$Slots" "filled" "[Z" ∈ wsX7_fill := by decide +kernel
theorem iX7_fill_X7 : ∀ w ∈ wsX70, w ∈ wsX7_fill := by decide +kernel
set_option maxHeartbeats 4000000 in
set_option maxRecDepth 100000 in
theorem kX7_fill_b25 {p : Program} {l : Launch} {e : Env} {s : State} {m : MethodId} {args : Array Value} {below : List Frame} {meth : Method} {c : Code} {G : qG} {A : Nat → Prop} {Qf : State → Prop} {R : va_W} {a : Nat → Nat} {b : Nat → Nat} {g : Nat → Nat} {ae : Nat → Nat} {az : Nat → Nat → Nat} {k : qS → qS → qS → qS → (Nat → qS) → Prop} (hx : p.tables.exec = Jvm.exec) (hb : c.code = cX7_fill) (hml : c.maxLocals = 3) (hown : s.vm.findClass RX7 = some m.cls) (hts : ∀ w ∈ wsX7_fill, w.before args s = true) (hA : ∀ q : Nat, s.heap.size ≤ q → A q) (hKn : qKn G A s s.heap) (hret : ∀ (q : qS) (o : qS) (d : qS) (tq : qS) (zs : (Nat → qS)) (H : Heap) (locs : List Loc) (ls : Array Slot) (pc : Nat), k q o d tq zs → va_P G.1 vwCl (wQ G a q ++ (wO G a b ae g az o ++ (wD G g d ++ (wQ G ae tq ++ (wZ G az zs ++ R))))) H → va_D A (wQ G a q ++ (wO G a b ae g az o ++ (wD G g d ++ (wQ G ae tq ++ (wZ G az zs ++ R))))) → va_S A s.heap H locs → decode cX7_fill pc = .ok (.return_, 1) → W p l e rmX7_fill s m args below meth c H locs 0 0 Qf (F0 m pc ls [])) : ∀ (q : qS) (o : qS) (d : qS) (tq : qS) (zs : (Nat → qS)) (H : Heap) (locs : List Loc) (ls : Array Slot), wX7_fill_b25 k q o d tq zs → va_P G.1 vwCl (wQ G a q ++ (wO G a b ae g az o ++ (wD G g d ++ (wQ G ae tq ++ (wZ G az zs ++ R))))) H → va_D A (wQ G a q ++ (wO G a b ae g az o ++ (wD G g d ++ (wQ G ae tq ++ (wZ G az zs ++ R))))) → va_S A s.heap H locs → lv_has ls 3 [] → W p l e rmX7_fill s m args below meth c H locs 0 0 Qf (F0 m 25 ls []) := by
  intro q o d tq zs H locs ls h hP hD hS hl
  unfold wX7_fill_b25 at h
  exact hret _ _ _ _ _ _ _ _ _ h hP hD hS dX7_fill_25
set_option maxHeartbeats 4000000 in
set_option maxRecDepth 100000 in
theorem mX7_fill (l : Launch) (G : qG) (k : qS → qS → qS → qS → (Nat → qS) → Prop) (R : va_W) (a : Nat → Nat) (b : Nat → Nat) (g : Nat → Nat) (ae : Nat → Nat) (az : Nat → Nat → Nat) (q : qS) (o : qS) (d : qS) (tq : qS) (zs : (Nat → qS)) (sz : Nat) (p0 : Int32) : Met l yX7_fill wsX7_fill rmX7_fill (qPc G [.ref (b 3), .int p0, .ref (a 0)] (wQ G a q ++ (wO G a b ae g az o ++ (wD G g d ++ (wQ G ae tq ++ (wZ G az zs ++ R))))) sz (wX7_fill k q o d tq zs p0)) (qQv G (wQ G a q ++ (wO G a b ae g az o ++ (wD G g d ++ (wQ G ae tq ++ (wZ G az zs ++ R))))) sz (fun (u : qS × qS × qS × qS × (Nat → qS)) => k u.1 u.2.1 u.2.2.1 u.2.2.2.1 u.2.2.2.2) (fun (u : qS × qS × qS × qS × (Nat → qS)) => wQ G a u.1 ++ (wO G a b ae g az u.2.1 ++ (wD G g u.2.2.1 ++ (wQ G ae u.2.2.2.1 ++ (wZ G az u.2.2.2.2 ++ R)))))) 0 0 (va_A (wQ G a q ++ (wO G a b ae g az o ++ (wD G g d ++ (wQ G ae tq ++ (wZ G az zs ++ R))))) sz) := by
  refine Met.ofW (cc := cX7_fill) (maxL := 3) (ret := none) (by decide) rfl ?_
  intro p e s m args below meth c s₁ B hml hv
  obtain ⟨rfl, hsz, hP, hD0, hKn0, h⟩ := hv
  have hx := B.exec
  have hb := B.bytes
  have hr := B.returns
  have hts := atoms_spec (ws := wsX7_fill) B.pre
  have hown : s.vm.findClass RX7 = some m.cls := findClass_of_methodNamed B.named
  have hlocks := B.notSynchronized
  subst hsz
  have hD := hD0.self (sz := s.heap.size)
  generalize hAe : va_A (wQ G a q ++ (wO G a b ae g az o ++ (wD G g d ++ (wQ G ae tq ++ (wZ G az zs ++ R))))) s.heap.size = A at hD hKn0 ⊢
  have hA : ∀ q : Nat, s.heap.size ≤ q → A q := fun q h => by rw [← hAe]; exact Or.inr h
  have hKn : qKn G A s s.heap := hKn0
  have hS : va_S A s.heap s.heap [] := va_S.rf
  have hret : ∀ (q' : qS) (o' : qS) (d' : qS) (tq' : qS) (zs' : (Nat → qS)) (H : Heap) (locs : List Loc) (ls : Array Slot) (pc : Nat), k q' o' d' tq' zs' → va_P G.1 vwCl (wQ G a q' ++ (wO G a b ae g az o' ++ (wD G g d' ++ (wQ G ae tq' ++ (wZ G az zs' ++ R))))) H → va_D A (wQ G a q' ++ (wO G a b ae g az o' ++ (wD G g d' ++ (wQ G ae tq' ++ (wZ G az zs' ++ R))))) → va_S A s.heap H locs → decode cX7_fill pc = .ok (.return_, 1) → W p l e rmX7_fill s m #[.ref (b 3), .int p0, .ref (a 0)] below meth c H locs 0 0 (MQ below (qQv G (wQ G a q ++ (wO G a b ae g az o ++ (wD G g d ++ (wQ G ae tq ++ (wZ G az zs ++ R))))) s.heap.size (fun (u : qS × qS × qS × qS × (Nat → qS)) => k u.1 u.2.1 u.2.2.1 u.2.2.2.1 u.2.2.2.2) (fun (u : qS × qS × qS × qS × (Nat → qS)) => wQ G a u.1 ++ (wO G a b ae g az u.2.1 ++ (wD G g u.2.2.1 ++ (wQ G ae u.2.2.2.1 ++ (wZ G az u.2.2.2.2 ++ R)))))) #[.ref (b 3), .int p0, .ref (a 0)] s 0 0 A) (F0 m pc ls []) := fun q' o' d' tq' zs' H locs ls pc hk hP hD hS hd => W.vret hx hb hr (fun t ht hW => q_rv (u := (⟨q', o', d', tq', zs'⟩ : qS × qS × qS × qS × (Nat → qS))) hAe hk hP hD hS ht) hS.2.2 hd
  have hl := lv_entry ([.ref (b 3), .int p0, .ref (a 0)]) (n := 3) (Nat.le_of_ble_eq_true rfl)
  rw [lg_entry_eq]
  generalize (lg_sl ([.ref (b 3), .int p0, .ref (a 0)]) ++ List.replicate (3 - (lg_sl ([.ref (b 3), .int p0, .ref (a 0)])).length) Slot.unset).toArray = ls at hl ⊢
  have hl : lv_has ls 3 [(0, .ref (b 3)), (1, .int p0), (2, .ref (a 0))] := hl
  unfold wX7_fill at h
  show W p l e rmX7_fill s m #[.ref (b 3), .int p0, .ref (a 0)] below meth c s.heap [] 0 0 _ _
  refine lv_aload_n hx hb dX7_fill_0 rfl (lv_at hl 0 rfl) ?_
  refine lv_iload_n hx hb dX7_fill_1 rfl (lv_at hl 1 rfl) ?_
  refine qc_vi (As := [.int p0]) (rest := []) ⟨hx, hb, hml, hown, hts⟩ (mX7_has l G _ _ a b g ae az q o d tq zs _ p0) (cwV 1 hts gX7_fill_X7_has rfl rfl rfl (by decide +kernel) ⟨Nat.le_of_ble_eq_true rfl, Nat.le_of_ble_eq_true rfl⟩) hP hD hS hA hKn 21 7 rfl rfl rfl h rfl hl.1 rfl (Nat.le_of_ble_eq_true rfl) dX7_fill_2 ⟨Nat.zero_le _, Nat.zero_le _⟩ (fun r1 u H locs h hP hD hS => ?_)
  obtain ⟨q2, o3, d4, tq5, zs6⟩ := u
  have hP : va_P G.1 vwCl (wQ G a q2 ++ (wO G a b ae g az o3 ++ (wD G g d4 ++ (wQ G ae tq5 ++ (wZ G az zs6 ++ R))))) H := hP
  have hD : va_D A (wQ G a q2 ++ (wO G a b ae g az o3 ++ (wD G g d4 ++ (wQ G ae tq5 ++ (wZ G az zs6 ++ R))))) := hD
  refine lv_if_eq (tgt := 25) hx hb dX7_fill_5 (by decide) (fun c1 => ?_) (fun c1 => ?_)
  · have h := h.1 c1
    exact kX7_fill_b25 hx hb hml hown hts hA hKn hret q2 o3 d4 tq5 zs6 _ _ _ h hP hD hS (lv_sub hl [] rfl)
  · have h := h.2 c1
    refine lv_aload_n hx hb dX7_fill_8 rfl (lv_at hl 0 rfl) ?_
    refine va_get (D := G.1) (ci := 7) (v := .ref (b 5)) (C := RX7) (T := TX7) (N := 2) hx hb hts iX7_fill_X7 hown hKn.k hP 21 rfl rfl 0 (by decide) (hts _ lX7_fill_f11) (fun _ h9 => h9) rfl dX7_fill_9 ?_
    refine lv_iload_n hx hb dX7_fill_12 rfl (lv_at hl 1 rfl) ?_
    obtain ⟨hin, h⟩ := h
    have hz := vp_lt hin
    refine va_aldq hx hb hKn.k hP 23 3 rfl rfl hin dX7_fill_13 ?_
    refine lv_aload_n hx hb dX7_fill_14 rfl (lv_at hl 2 rfl) ?_
    obtain ⟨hP, hD⟩ := q_perm (z_open (G := G) (zs := zs6) (i := 7 + Int32.toNatClampNeg p0) (by omega)) hP hD
    obtain ⟨hP, hD⟩ := q_perm (((((((List.perm_append_comm_assoc _ _ _).append_left _).trans (List.perm_append_comm_assoc _ _ _)).append_left _).trans (List.perm_append_comm_assoc _ _ _)).append_left _).trans (List.perm_append_comm_assoc _ _ _)) hP hD
    have hP : va_P G.1 vwCl (wQ G (az (7 + Int32.toNatClampNeg p0)) (zs6 (7 + Int32.toNatClampNeg p0)) ++ (wQ G a q2 ++ (wO G a b ae g az o3 ++ (wD G g d4 ++ (wQ G ae tq5 ++ (wZr G (7 + Int32.toNatClampNeg p0) az zs6 ++ R)))))) H := hP
    have hD : va_D A (wQ G (az (7 + Int32.toNatClampNeg p0)) (zs6 (7 + Int32.toNatClampNeg p0)) ++ (wQ G a q2 ++ (wO G a b ae g az o3 ++ (wD G g d4 ++ (wQ G ae tq5 ++ (wZr G (7 + Int32.toNatClampNeg p0) az zs6 ++ R)))))) := hD
    refine qc_vv (As := [.ref (a 0)]) (rest := []) ⟨hx, hb, hml, hown, hts⟩ (mX6_copyFrom l G _ _ (az (7 + Int32.toNatClampNeg p0)) a (zs6 (7 + Int32.toNatClampNeg p0)) q2 _ ) (cwV 1 hts gX7_fill_X6_copyFrom rfl rfl rfl (by decide +kernel) ⟨Nat.le_of_ble_eq_true rfl, Nat.le_of_ble_eq_true rfl⟩) hP hD hS hA hKn 0 6 rfl rfl rfl h rfl hl.1 rfl (Nat.le_of_ble_eq_true rfl) dX7_fill_15 ⟨Nat.zero_le _, Nat.zero_le _⟩ (fun u H locs h hP hD hS => ?_)
    obtain ⟨z8, q9⟩ := u
    have hP : va_P G.1 vwCl (wQ G (az (7 + Int32.toNatClampNeg p0)) z8 ++ (wQ G a q9 ++ (wO G a b ae g az o3 ++ (wD G g d4 ++ (wQ G ae tq5 ++ (wZr G (7 + Int32.toNatClampNeg p0) az zs6 ++ R)))))) H := hP
    have hD : va_D A (wQ G (az (7 + Int32.toNatClampNeg p0)) z8 ++ (wQ G a q9 ++ (wO G a b ae g az o3 ++ (wD G g d4 ++ (wQ G ae tq5 ++ (wZr G (7 + Int32.toNatClampNeg p0) az zs6 ++ R)))))) := hD
    obtain ⟨hP, hD⟩ := q_perm ((((((((List.perm_append_comm_assoc _ _ _).append_left _).trans (List.perm_append_comm_assoc _ _ _)).append_left _).trans (List.perm_append_comm_assoc _ _ _)).append_left _).trans (List.perm_append_comm_assoc _ _ _))).symm hP hD
    obtain ⟨hP, hD⟩ := q_perm (z_close (G := G) (zs := zs6) (i := 7 + Int32.toNatClampNeg p0) (by omega)) hP hD
    obtain ⟨zs10, ezs10⟩ : ∃ z : Nat → qS, z = upZ zs6 (7 + Int32.toNatClampNeg p0) z8 := ⟨_, rfl⟩
    rw [← ezs10] at hP hD
    have h := h zs10 ezs10
    have hP : va_P G.1 vwCl (wQ G a q9 ++ (wO G a b ae g az o3 ++ (wD G g d4 ++ (wQ G ae tq5 ++ (wZ G az zs10 ++ R))))) H := hP
    have hD : va_D A (wQ G a q9 ++ (wO G a b ae g az o3 ++ (wD G g d4 ++ (wQ G ae tq5 ++ (wZ G az zs10 ++ R))))) := hD
    refine lv_aload_n hx hb dX7_fill_18 rfl (lv_at hl 0 rfl) ?_
    refine va_get (D := G.1) (ci := 7) (v := .ref (b 4)) (C := RX7) (T := TX7) (N := 2) hx hb hts iX7_fill_X7 hown hKn.k hP 21 rfl rfl 1 (by decide) (hts _ lX7_fill_f17) (fun _ h9 => h9) rfl dX7_fill_19 ?_
    refine lv_iload_n hx hb dX7_fill_22 rfl (lv_at hl 1 rfl) ?_
    refine lv_iconst (v := (1 : Int32)) hx hb dX7_fill_23 (by decide) ?_
    obtain ⟨hin, h⟩ := h
    refine va_zast hx hb hKn.k hP hD hS 22 1 rfl rfl hin dX7_fill_24 (fun H locs hP hD hS => ?_)
    obtain ⟨o11, eo11⟩ : ∃ z : qS, z = up2 o3 1 (Int32.toNatClampNeg p0) (vp_nar .boolean (1 : Int32)) := ⟨_, rfl⟩
    have hP : va_P G.1 vwCl (wQ G a q9 ++ (wO G a b ae g az o11 ++ (wD G g d4 ++ (wQ G ae tq5 ++ (wZ G az zs10 ++ R))))) H := by rw [eo11]; exact hP
    have hD : va_D A (wQ G a q9 ++ (wO G a b ae g az o11 ++ (wD G g d4 ++ (wQ G ae tq5 ++ (wZ G az zs10 ++ R))))) := by rw [eo11]; exact hD
    have h := h o11 eo11
    exact kX7_fill_b25 hx hb hml hown hts hA hKn hret q9 o11 d4 tq5 zs10 _ _ _ h hP hD hS (lv_sub hl [] rfl)
abbrev rmX9_recorded : Room := { frames := 2, cells := 0, slots := 0, locals := 34 }
theorem lX9_recorded_f22 : Cond.fieldLink RX9 22 "QuarryBlends" "history" "LQuarryBlends$History;" ∈ wsX9_recorded := by decide +kernel
theorem iX9_recorded_X9 : ∀ w ∈ wsX90, w ∈ wsX9_recorded := by decide +kernel
set_option maxHeartbeats 4000000 in
set_option maxRecDepth 100000 in
theorem kX9_recorded_b11 {p : Program} {l : Launch} {e : Env} {s : State} {m : MethodId} {args : Array Value} {below : List Frame} {meth : Method} {c : Code} {G : qG} {A : Nat → Prop} {Qf : State → Prop} {R : va_W} {a : Nat → Nat} {b : Nat → Nat} {g : Nat → Nat} {ae : Nat → Nat} {az : Nat → Nat → Nat} {k : Int32 → qS → qS → qS → qS → (Nat → qS) → Prop} (hx : p.tables.exec = Jvm.exec) (hb : c.code = cX9_recorded) (hml : c.maxLocals = 2) (hown : s.vm.findClass RX9 = some m.cls) (hts : ∀ w ∈ wsX9_recorded, w.before args s = true) (hA : ∀ q : Nat, s.heap.size ≤ q → A q) (hKn : qKn G A s s.heap) (hret : ∀ (r : Int32) (q : qS) (o : qS) (d : qS) (tq : qS) (zs : (Nat → qS)) (H : Heap) (locs : List Loc) (ls : Array Slot) (pc : Nat), k r q o d tq zs → va_P G.1 vwCl (wQ G a q ++ (wO G a b ae g az o ++ (wD G g d ++ (wQ G ae tq ++ (wZ G az zs ++ R))))) H → va_D A (wQ G a q ++ (wO G a b ae g az o ++ (wD G g d ++ (wQ G ae tq ++ (wZ G az zs ++ R))))) → va_S A s.heap H locs → decode cX9_recorded pc = .ok (.ireturn, 1) → W p l e rmX9_recorded s m args below meth c H locs 0 0 Qf (F0 m pc ls [.int r])) : ∀ (q : qS) (o : qS) (d : qS) (tq : qS) (zs : (Nat → qS)) (x1 : Int32) (H : Heap) (locs : List Loc) (ls : Array Slot), wX9_recorded_b11 k q o d tq zs x1 → va_P G.1 vwCl (wQ G a q ++ (wO G a b ae g az o ++ (wD G g d ++ (wQ G ae tq ++ (wZ G az zs ++ R))))) H → va_D A (wQ G a q ++ (wO G a b ae g az o ++ (wD G g d ++ (wQ G ae tq ++ (wZ G az zs ++ R))))) → va_S A s.heap H locs → lv_has ls 2 [(1, .int x1)] → W p l e rmX9_recorded s m args below meth c H locs 0 0 Qf (F0 m 11 ls []) := by
  intro q o d tq zs x1 H locs ls h hP hD hS hl
  unfold wX9_recorded_b11 at h
  refine lv_iload_n hx hb dX9_recorded_11 rfl (lv_at hl 0 rfl) ?_
  exact hret _ _ _ _ _ _ _ _ _ _ h hP hD hS dX9_recorded_12
set_option maxHeartbeats 4000000 in
set_option maxRecDepth 100000 in
theorem mX9_recorded (l : Launch) (G : qG) (k : Int32 → qS → qS → qS → qS → (Nat → qS) → Prop) (R : va_W) (a : Nat → Nat) (b : Nat → Nat) (g : Nat → Nat) (ae : Nat → Nat) (az : Nat → Nat → Nat) (q : qS) (o : qS) (d : qS) (tq : qS) (zs : (Nat → qS)) (sz : Nat) (p0 : Int32) : Met l yX9_recorded wsX9_recorded rmX9_recorded (qPc G [.ref (b 0), .int p0] (wQ G a q ++ (wO G a b ae g az o ++ (wD G g d ++ (wQ G ae tq ++ (wZ G az zs ++ R))))) sz (wX9_recorded k q o d tq zs p0)) (qQi G (wQ G a q ++ (wO G a b ae g az o ++ (wD G g d ++ (wQ G ae tq ++ (wZ G az zs ++ R))))) sz (fun (r : Int32) (u : qS × qS × qS × qS × (Nat → qS)) => k r u.1 u.2.1 u.2.2.1 u.2.2.2.1 u.2.2.2.2) (fun (u : qS × qS × qS × qS × (Nat → qS)) => wQ G a u.1 ++ (wO G a b ae g az u.2.1 ++ (wD G g u.2.2.1 ++ (wQ G ae u.2.2.2.1 ++ (wZ G az u.2.2.2.2 ++ R)))))) 0 0 (va_A (wQ G a q ++ (wO G a b ae g az o ++ (wD G g d ++ (wQ G ae tq ++ (wZ G az zs ++ R))))) sz) := by
  refine Met.ofW (cc := cX9_recorded) (maxL := 2) (ret := (some .int)) (by decide) rfl ?_
  intro p e s m args below meth c s₁ B hml hv
  obtain ⟨rfl, hsz, hP, hD0, hKn0, h⟩ := hv
  have hx := B.exec
  have hb := B.bytes
  have hr := B.returns
  have hts := atoms_spec (ws := wsX9_recorded) B.pre
  have hown : s.vm.findClass RX9 = some m.cls := findClass_of_methodNamed B.named
  have hlocks := B.notSynchronized
  subst hsz
  have hD := hD0.self (sz := s.heap.size)
  generalize hAe : va_A (wQ G a q ++ (wO G a b ae g az o ++ (wD G g d ++ (wQ G ae tq ++ (wZ G az zs ++ R))))) s.heap.size = A at hD hKn0 ⊢
  have hA : ∀ q : Nat, s.heap.size ≤ q → A q := fun q h => by rw [← hAe]; exact Or.inr h
  have hKn : qKn G A s s.heap := hKn0
  have hS : va_S A s.heap s.heap [] := va_S.rf
  have hret : ∀ (r : Int32) (q' : qS) (o' : qS) (d' : qS) (tq' : qS) (zs' : (Nat → qS)) (H : Heap) (locs : List Loc) (ls : Array Slot) (pc : Nat), k r q' o' d' tq' zs' → va_P G.1 vwCl (wQ G a q' ++ (wO G a b ae g az o' ++ (wD G g d' ++ (wQ G ae tq' ++ (wZ G az zs' ++ R))))) H → va_D A (wQ G a q' ++ (wO G a b ae g az o' ++ (wD G g d' ++ (wQ G ae tq' ++ (wZ G az zs' ++ R))))) → va_S A s.heap H locs → decode cX9_recorded pc = .ok (.ireturn, 1) → W p l e rmX9_recorded s m #[.ref (b 0), .int p0] below meth c H locs 0 0 (MQ below (qQi G (wQ G a q ++ (wO G a b ae g az o ++ (wD G g d ++ (wQ G ae tq ++ (wZ G az zs ++ R))))) s.heap.size (fun (r : Int32) (u : qS × qS × qS × qS × (Nat → qS)) => k r u.1 u.2.1 u.2.2.1 u.2.2.2.1 u.2.2.2.2) (fun (u : qS × qS × qS × qS × (Nat → qS)) => wQ G a u.1 ++ (wO G a b ae g az u.2.1 ++ (wD G g u.2.2.1 ++ (wQ G ae u.2.2.2.1 ++ (wZ G az u.2.2.2.2 ++ R)))))) #[.ref (b 0), .int p0] s 0 0 A) (F0 m pc ls [.int r]) := fun r q' o' d' tq' zs' H locs ls pc hk hP hD hS hd => W.iret hx hb hr (fun t ht hW => q_ri (u := (⟨q', o', d', tq', zs'⟩ : qS × qS × qS × qS × (Nat → qS))) hAe hk hP hD hS ht) hS.2.2 hd
  have hl := lv_entry ([.ref (b 0), .int p0]) (n := 2) (Nat.le_of_ble_eq_true rfl)
  rw [lg_entry_eq]
  generalize (lg_sl ([.ref (b 0), .int p0]) ++ List.replicate (2 - (lg_sl ([.ref (b 0), .int p0])).length) Slot.unset).toArray = ls at hl ⊢
  have hl : lv_has ls 2 [(0, .ref (b 0)), (1, .int p0)] := hl
  unfold wX9_recorded at h
  show W p l e rmX9_recorded s m #[.ref (b 0), .int p0] below meth c s.heap [] 0 0 _ _
  refine lv_iload_n hx hb dX9_recorded_0 rfl (lv_at hl 1 rfl) ?_
  refine lv_if_lt (tgt := 11) hx hb dX9_recorded_1 (by decide) (fun c1 => ?_) (fun c1 => ?_)
  · have h := h.1 c1
    exact kX9_recorded_b11 hx hb hml hown hts hA hKn hret q o d tq zs p0 _ _ _ h hP hD hS (lv_sub hl [1] rfl)
  · have h := h.2 c1
    refine lv_aload_n hx hb dX9_recorded_4 rfl (lv_at hl 0 rfl) ?_
    refine va_get (D := G.1) (ci := 9) (v := .ref (b 1)) (C := RX9) (T := TX9) (N := 5) hx hb hts iX9_recorded_X9 hown hKn.k hP 18 rfl rfl 2 (by decide) (hts _ lX9_recorded_f22) (fun _ h9 => h9) rfl dX9_recorded_5 ?_
    refine qc_vv (As := []) (rest := []) ⟨hx, hb, hml, hown, hts⟩ (mX4_keepPrepared l G _ _ a b g ae az q o d tq zs _ ) (cwV 0 hts gX9_recorded_X4_keepPrepared rfl rfl rfl (by decide +kernel) ⟨Nat.le_of_ble_eq_true rfl, Nat.le_of_ble_eq_true rfl⟩) hP hD hS hA hKn 19 4 rfl rfl rfl h rfl hl.1 rfl (Nat.le_of_ble_eq_true rfl) dX9_recorded_8 ⟨Nat.zero_le _, Nat.zero_le _⟩ (fun u H locs h hP hD hS => ?_)
    obtain ⟨q2, o3, d4, tq5, zs6⟩ := u
    have hP : va_P G.1 vwCl (wQ G a q2 ++ (wO G a b ae g az o3 ++ (wD G g d4 ++ (wQ G ae tq5 ++ (wZ G az zs6 ++ R))))) H := hP
    have hD : va_D A (wQ G a q2 ++ (wO G a b ae g az o3 ++ (wD G g d4 ++ (wQ G ae tq5 ++ (wZ G az zs6 ++ R))))) := hD
    exact kX9_recorded_b11 hx hb hml hown hts hA hKn hret q2 o3 d4 tq5 zs6 p0 _ _ _ h hP hD hS (lv_sub hl [1] rfl)
abbrev rmX9_set : Room := { frames := 5, cells := 0, slots := 0, locals := 102 }
theorem lX9_set_f10 : Cond.fieldLink RX9 10 "QuarryBlends" "now" "LQuarryBlends$Quarry;" ∈ wsX9_set := by decide +kernel
theorem lX9_set_f22 : Cond.fieldLink RX9 22 "QuarryBlends" "history" "LQuarryBlends$History;" ∈ wsX9_set := by decide +kernel
theorem iX9_set_X9 : ∀ w ∈ wsX90, w ∈ wsX9_set := by decide +kernel
set_option maxHeartbeats 4000000 in
set_option maxRecDepth 100000 in
theorem mX9_set (l : Launch) (G : qG) (k : Int32 → qS → qS → qS → qS → (Nat → qS) → Prop) (R : va_W) (a : Nat → Nat) (b : Nat → Nat) (g : Nat → Nat) (ae : Nat → Nat) (az : Nat → Nat → Nat) (q : qS) (o : qS) (d : qS) (tq : qS) (zs : (Nat → qS)) (sz : Nat) (p0 : Int32) (p1 : Int32) : Met l yX9_set wsX9_set rmX9_set (qPc G [.ref (b 0), .int p0, .int p1] (wQ G a q ++ (wO G a b ae g az o ++ (wD G g d ++ (wQ G ae tq ++ (wZ G az zs ++ R))))) sz (wX9_set k q o d tq zs p0 p1)) (qQi G (wQ G a q ++ (wO G a b ae g az o ++ (wD G g d ++ (wQ G ae tq ++ (wZ G az zs ++ R))))) sz (fun (r : Int32) (u : qS × qS × qS × qS × (Nat → qS)) => k r u.1 u.2.1 u.2.2.1 u.2.2.2.1 u.2.2.2.2) (fun (u : qS × qS × qS × qS × (Nat → qS)) => wQ G a u.1 ++ (wO G a b ae g az u.2.1 ++ (wD G g u.2.2.1 ++ (wQ G ae u.2.2.2.1 ++ (wZ G az u.2.2.2.2 ++ R)))))) 0 0 (va_A (wQ G a q ++ (wO G a b ae g az o ++ (wD G g d ++ (wQ G ae tq ++ (wZ G az zs ++ R))))) sz) := by
  refine Met.ofW (cc := cX9_set) (maxL := 3) (ret := (some .int)) (by decide) rfl ?_
  intro p e s m args below meth c s₁ B hml hv
  obtain ⟨rfl, hsz, hP, hD0, hKn0, h⟩ := hv
  have hx := B.exec
  have hb := B.bytes
  have hr := B.returns
  have hts := atoms_spec (ws := wsX9_set) B.pre
  have hown : s.vm.findClass RX9 = some m.cls := findClass_of_methodNamed B.named
  have hlocks := B.notSynchronized
  subst hsz
  have hD := hD0.self (sz := s.heap.size)
  generalize hAe : va_A (wQ G a q ++ (wO G a b ae g az o ++ (wD G g d ++ (wQ G ae tq ++ (wZ G az zs ++ R))))) s.heap.size = A at hD hKn0 ⊢
  have hA : ∀ q : Nat, s.heap.size ≤ q → A q := fun q h => by rw [← hAe]; exact Or.inr h
  have hKn : qKn G A s s.heap := hKn0
  have hS : va_S A s.heap s.heap [] := va_S.rf
  have hret : ∀ (r : Int32) (q' : qS) (o' : qS) (d' : qS) (tq' : qS) (zs' : (Nat → qS)) (H : Heap) (locs : List Loc) (ls : Array Slot) (pc : Nat), k r q' o' d' tq' zs' → va_P G.1 vwCl (wQ G a q' ++ (wO G a b ae g az o' ++ (wD G g d' ++ (wQ G ae tq' ++ (wZ G az zs' ++ R))))) H → va_D A (wQ G a q' ++ (wO G a b ae g az o' ++ (wD G g d' ++ (wQ G ae tq' ++ (wZ G az zs' ++ R))))) → va_S A s.heap H locs → decode cX9_set pc = .ok (.ireturn, 1) → W p l e rmX9_set s m #[.ref (b 0), .int p0, .int p1] below meth c H locs 0 0 (MQ below (qQi G (wQ G a q ++ (wO G a b ae g az o ++ (wD G g d ++ (wQ G ae tq ++ (wZ G az zs ++ R))))) s.heap.size (fun (r : Int32) (u : qS × qS × qS × qS × (Nat → qS)) => k r u.1 u.2.1 u.2.2.1 u.2.2.2.1 u.2.2.2.2) (fun (u : qS × qS × qS × qS × (Nat → qS)) => wQ G a u.1 ++ (wO G a b ae g az u.2.1 ++ (wD G g u.2.2.1 ++ (wQ G ae u.2.2.2.1 ++ (wZ G az u.2.2.2.2 ++ R)))))) #[.ref (b 0), .int p0, .int p1] s 0 0 A) (F0 m pc ls [.int r]) := fun r q' o' d' tq' zs' H locs ls pc hk hP hD hS hd => W.iret hx hb hr (fun t ht hW => q_ri (u := (⟨q', o', d', tq', zs'⟩ : qS × qS × qS × qS × (Nat → qS))) hAe hk hP hD hS ht) hS.2.2 hd
  have hl := lv_entry ([.ref (b 0), .int p0, .int p1]) (n := 3) (Nat.le_of_ble_eq_true rfl)
  rw [lg_entry_eq]
  generalize (lg_sl ([.ref (b 0), .int p0, .int p1]) ++ List.replicate (3 - (lg_sl ([.ref (b 0), .int p0, .int p1])).length) Slot.unset).toArray = ls at hl ⊢
  have hl : lv_has ls 3 [(0, .ref (b 0)), (1, .int p0), (2, .int p1)] := hl
  unfold wX9_set at h
  show W p l e rmX9_set s m #[.ref (b 0), .int p0, .int p1] below meth c s.heap [] 0 0 _ _
  refine lv_aload_n hx hb dX9_set_0 rfl (lv_at hl 0 rfl) ?_
  refine va_get (D := G.1) (ci := 9) (v := .ref (b 1)) (C := RX9) (T := TX9) (N := 5) hx hb hts iX9_set_X9 hown hKn.k hP 18 rfl rfl 2 (by decide) (hts _ lX9_set_f22) (fun _ h9 => h9) rfl dX9_set_1 ?_
  refine lv_aload_n hx hb dX9_set_4 rfl (lv_at hl 0 rfl) ?_
  refine va_get (D := G.1) (ci := 9) (v := .ref (a 0)) (C := RX9) (T := TX9) (N := 5) hx hb hts iX9_set_X9 hown hKn.k hP 18 rfl rfl 0 (by decide) (hts _ lX9_set_f10) (fun _ h9 => h9) rfl dX9_set_5 ?_
  refine qc_vv (As := [.ref (a 0)]) (rest := []) ⟨hx, hb, hml, hown, hts⟩ (mX4_prepare l G _ _ a b g ae az q o d tq zs _ ) (cwV 1 hts gX9_set_X4_prepare rfl rfl rfl (by decide +kernel) ⟨Nat.le_of_ble_eq_true rfl, Nat.le_of_ble_eq_true rfl⟩) hP hD hS hA hKn 19 4 rfl rfl rfl h rfl hl.1 rfl (Nat.le_of_ble_eq_true rfl) dX9_set_8 ⟨Nat.zero_le _, Nat.zero_le _⟩ (fun u H locs h hP hD hS => ?_)
  obtain ⟨q2, o3, d4, tq5, zs6⟩ := u
  have hP : va_P G.1 vwCl (wQ G a q2 ++ (wO G a b ae g az o3 ++ (wD G g d4 ++ (wQ G ae tq5 ++ (wZ G az zs6 ++ R))))) H := hP
  have hD : va_D A (wQ G a q2 ++ (wO G a b ae g az o3 ++ (wD G g d4 ++ (wQ G ae tq5 ++ (wZ G az zs6 ++ R))))) := hD
  refine lv_aload_n hx hb dX9_set_11 rfl (lv_at hl 0 rfl) ?_
  refine lv_aload_n hx hb dX9_set_12 rfl (lv_at hl 0 rfl) ?_
  refine va_get (D := G.1) (ci := 9) (v := .ref (a 0)) (C := RX9) (T := TX9) (N := 5) hx hb hts iX9_set_X9 hown hKn.k hP 18 rfl rfl 0 (by decide) (hts _ lX9_set_f10) (fun _ h9 => h9) rfl dX9_set_13 ?_
  refine lv_iload_n hx hb dX9_set_16 rfl (lv_at hl 1 rfl) ?_
  refine lv_iload_n hx hb dX9_set_17 rfl (lv_at hl 2 rfl) ?_
  refine qc_vi (As := [.int p0, .int p1]) (rest := [.ref (b 0)]) ⟨hx, hb, hml, hown, hts⟩ (mX6_changeSetting l G _ _ a q2 _ p0 p1) (cwV 2 hts gX9_set_X6_changeSetting rfl rfl rfl (by decide +kernel) ⟨Nat.le_of_ble_eq_true rfl, Nat.le_of_ble_eq_true rfl⟩) hP hD hS hA hKn 0 6 rfl rfl rfl h rfl hl.1 rfl (Nat.le_of_ble_eq_true rfl) dX9_set_18 ⟨Nat.zero_le _, Nat.zero_le _⟩ (fun r7 q8 H locs h hP hD hS => ?_)
  have hP : va_P G.1 vwCl (wQ G a q8 ++ (wO G a b ae g az o3 ++ (wD G g d4 ++ (wQ G ae tq5 ++ (wZ G az zs6 ++ R))))) H := hP
  have hD : va_D A (wQ G a q8 ++ (wO G a b ae g az o3 ++ (wD G g d4 ++ (wQ G ae tq5 ++ (wZ G az zs6 ++ R))))) := hD
  refine qc_vi (As := [.int r7]) (rest := []) ⟨hx, hb, hml, hown, hts⟩ (mX9_recorded l G _ _ a b g ae az q8 o3 d4 tq5 zs6 _ r7) (cwV 1 hts gX9_set_X9_recorded rfl rfl rfl (by decide +kernel) ⟨Nat.le_of_ble_eq_true rfl, Nat.le_of_ble_eq_true rfl⟩) hP hD hS hA hKn 18 9 rfl rfl rfl h rfl hl.1 rfl (Nat.le_of_ble_eq_true rfl) dX9_set_21 ⟨Nat.zero_le _, Nat.zero_le _⟩ (fun r9 u H locs h hP hD hS => ?_)
  obtain ⟨q10, o11, d12, tq13, zs14⟩ := u
  have hP : va_P G.1 vwCl (wQ G a q10 ++ (wO G a b ae g az o11 ++ (wD G g d12 ++ (wQ G ae tq13 ++ (wZ G az zs14 ++ R))))) H := hP
  have hD : va_D A (wQ G a q10 ++ (wO G a b ae g az o11 ++ (wD G g d12 ++ (wQ G ae tq13 ++ (wZ G az zs14 ++ R))))) := hD
  exact hret _ _ _ _ _ _ _ _ _ _ h hP hD hS dX9_set_24
abbrev rmX9_face : Room := { frames := 5, cells := 0, slots := 0, locals := 102 }
theorem lX9_face_f10 : Cond.fieldLink RX9 10 "QuarryBlends" "now" "LQuarryBlends$Quarry;" ∈ wsX9_face := by decide +kernel
theorem lX9_face_f22 : Cond.fieldLink RX9 22 "QuarryBlends" "history" "LQuarryBlends$History;" ∈ wsX9_face := by decide +kernel
theorem lX9_face_f52 : Cond.fieldLink RX9 52 "QuarryBlends$Quarry" "faces" "LQuarryBlends$Faces;" ∈ wsX9_face := by decide +kernel
theorem iX9_face_X6 : ∀ w ∈ wsX60, w ∈ wsX9_face := by decide +kernel
theorem iX9_face_X9 : ∀ w ∈ wsX90, w ∈ wsX9_face := by decide +kernel
set_option maxHeartbeats 4000000 in
set_option maxRecDepth 100000 in
theorem mX9_face (l : Launch) (G : qG) (k : Int32 → qS → qS → qS → qS → (Nat → qS) → Prop) (R : va_W) (a : Nat → Nat) (b : Nat → Nat) (g : Nat → Nat) (ae : Nat → Nat) (az : Nat → Nat → Nat) (q : qS) (o : qS) (d : qS) (tq : qS) (zs : (Nat → qS)) (sz : Nat) (p0 : Int32) (p1 : Int32) (p2 : Int32) : Met l yX9_face wsX9_face rmX9_face (qPc G [.ref (b 0), .int p0, .int p1, .int p2] (wQ G a q ++ (wO G a b ae g az o ++ (wD G g d ++ (wQ G ae tq ++ (wZ G az zs ++ R))))) sz (wX9_face k q o d tq zs p0 p1 p2)) (qQi G (wQ G a q ++ (wO G a b ae g az o ++ (wD G g d ++ (wQ G ae tq ++ (wZ G az zs ++ R))))) sz (fun (r : Int32) (u : qS × qS × qS × qS × (Nat → qS)) => k r u.1 u.2.1 u.2.2.1 u.2.2.2.1 u.2.2.2.2) (fun (u : qS × qS × qS × qS × (Nat → qS)) => wQ G a u.1 ++ (wO G a b ae g az u.2.1 ++ (wD G g u.2.2.1 ++ (wQ G ae u.2.2.2.1 ++ (wZ G az u.2.2.2.2 ++ R)))))) 0 0 (va_A (wQ G a q ++ (wO G a b ae g az o ++ (wD G g d ++ (wQ G ae tq ++ (wZ G az zs ++ R))))) sz) := by
  refine Met.ofW (cc := cX9_face) (maxL := 4) (ret := (some .int)) (by decide) rfl ?_
  intro p e s m args below meth c s₁ B hml hv
  obtain ⟨rfl, hsz, hP, hD0, hKn0, h⟩ := hv
  have hx := B.exec
  have hb := B.bytes
  have hr := B.returns
  have hts := atoms_spec (ws := wsX9_face) B.pre
  have hown : s.vm.findClass RX9 = some m.cls := findClass_of_methodNamed B.named
  have hlocks := B.notSynchronized
  subst hsz
  have hD := hD0.self (sz := s.heap.size)
  generalize hAe : va_A (wQ G a q ++ (wO G a b ae g az o ++ (wD G g d ++ (wQ G ae tq ++ (wZ G az zs ++ R))))) s.heap.size = A at hD hKn0 ⊢
  have hA : ∀ q : Nat, s.heap.size ≤ q → A q := fun q h => by rw [← hAe]; exact Or.inr h
  have hKn : qKn G A s s.heap := hKn0
  have hS : va_S A s.heap s.heap [] := va_S.rf
  have hret : ∀ (r : Int32) (q' : qS) (o' : qS) (d' : qS) (tq' : qS) (zs' : (Nat → qS)) (H : Heap) (locs : List Loc) (ls : Array Slot) (pc : Nat), k r q' o' d' tq' zs' → va_P G.1 vwCl (wQ G a q' ++ (wO G a b ae g az o' ++ (wD G g d' ++ (wQ G ae tq' ++ (wZ G az zs' ++ R))))) H → va_D A (wQ G a q' ++ (wO G a b ae g az o' ++ (wD G g d' ++ (wQ G ae tq' ++ (wZ G az zs' ++ R))))) → va_S A s.heap H locs → decode cX9_face pc = .ok (.ireturn, 1) → W p l e rmX9_face s m #[.ref (b 0), .int p0, .int p1, .int p2] below meth c H locs 0 0 (MQ below (qQi G (wQ G a q ++ (wO G a b ae g az o ++ (wD G g d ++ (wQ G ae tq ++ (wZ G az zs ++ R))))) s.heap.size (fun (r : Int32) (u : qS × qS × qS × qS × (Nat → qS)) => k r u.1 u.2.1 u.2.2.1 u.2.2.2.1 u.2.2.2.2) (fun (u : qS × qS × qS × qS × (Nat → qS)) => wQ G a u.1 ++ (wO G a b ae g az u.2.1 ++ (wD G g u.2.2.1 ++ (wQ G ae u.2.2.2.1 ++ (wZ G az u.2.2.2.2 ++ R)))))) #[.ref (b 0), .int p0, .int p1, .int p2] s 0 0 A) (F0 m pc ls [.int r]) := fun r q' o' d' tq' zs' H locs ls pc hk hP hD hS hd => W.iret hx hb hr (fun t ht hW => q_ri (u := (⟨q', o', d', tq', zs'⟩ : qS × qS × qS × qS × (Nat → qS))) hAe hk hP hD hS ht) hS.2.2 hd
  have hl := lv_entry ([.ref (b 0), .int p0, .int p1, .int p2]) (n := 4) (Nat.le_of_ble_eq_true rfl)
  rw [lg_entry_eq]
  generalize (lg_sl ([.ref (b 0), .int p0, .int p1, .int p2]) ++ List.replicate (4 - (lg_sl ([.ref (b 0), .int p0, .int p1, .int p2])).length) Slot.unset).toArray = ls at hl ⊢
  have hl : lv_has ls 4 [(0, .ref (b 0)), (1, .int p0), (2, .int p1), (3, .int p2)] := hl
  unfold wX9_face at h
  show W p l e rmX9_face s m #[.ref (b 0), .int p0, .int p1, .int p2] below meth c s.heap [] 0 0 _ _
  refine lv_aload_n hx hb dX9_face_0 rfl (lv_at hl 0 rfl) ?_
  refine va_get (D := G.1) (ci := 9) (v := .ref (b 1)) (C := RX9) (T := TX9) (N := 5) hx hb hts iX9_face_X9 hown hKn.k hP 18 rfl rfl 2 (by decide) (hts _ lX9_face_f22) (fun _ h9 => h9) rfl dX9_face_1 ?_
  refine lv_aload_n hx hb dX9_face_4 rfl (lv_at hl 0 rfl) ?_
  refine va_get (D := G.1) (ci := 9) (v := .ref (a 0)) (C := RX9) (T := TX9) (N := 5) hx hb hts iX9_face_X9 hown hKn.k hP 18 rfl rfl 0 (by decide) (hts _ lX9_face_f10) (fun _ h9 => h9) rfl dX9_face_5 ?_
  refine qc_vv (As := [.ref (a 0)]) (rest := []) ⟨hx, hb, hml, hown, hts⟩ (mX4_prepare l G _ _ a b g ae az q o d tq zs _ ) (cwV 1 hts gX9_face_X4_prepare rfl rfl rfl (by decide +kernel) ⟨Nat.le_of_ble_eq_true rfl, Nat.le_of_ble_eq_true rfl⟩) hP hD hS hA hKn 19 4 rfl rfl rfl h rfl hl.1 rfl (Nat.le_of_ble_eq_true rfl) dX9_face_8 ⟨Nat.zero_le _, Nat.zero_le _⟩ (fun u H locs h hP hD hS => ?_)
  obtain ⟨q2, o3, d4, tq5, zs6⟩ := u
  have hP : va_P G.1 vwCl (wQ G a q2 ++ (wO G a b ae g az o3 ++ (wD G g d4 ++ (wQ G ae tq5 ++ (wZ G az zs6 ++ R))))) H := hP
  have hD : va_D A (wQ G a q2 ++ (wO G a b ae g az o3 ++ (wD G g d4 ++ (wQ G ae tq5 ++ (wZ G az zs6 ++ R))))) := hD
  refine lv_aload_n hx hb dX9_face_11 rfl (lv_at hl 0 rfl) ?_
  refine lv_aload_n hx hb dX9_face_12 rfl (lv_at hl 0 rfl) ?_
  refine va_get (D := G.1) (ci := 9) (v := .ref (a 0)) (C := RX9) (T := TX9) (N := 5) hx hb hts iX9_face_X9 hown hKn.k hP 18 rfl rfl 0 (by decide) (hts _ lX9_face_f10) (fun _ h9 => h9) rfl dX9_face_13 ?_
  refine va_get (D := G.1) (ci := 6) (v := .ref (a 13)) (C := RX6) (T := TX6) (N := 10) hx hb hts iX9_face_X6 hown hKn.k hP 0 rfl rfl 1 (by decide) (hts _ lX9_face_f52) (fun _ h9 => h9) rfl dX9_face_16 ?_
  refine lv_iload_n hx hb dX9_face_19 rfl (lv_at hl 1 rfl) ?_
  refine lv_iload_n hx hb dX9_face_20 rfl (lv_at hl 2 rfl) ?_
  refine lv_iload_n hx hb dX9_face_21 rfl (lv_at hl 3 rfl) ?_
  refine qc_vi (As := [.int p0, .int p1, .int p2]) (rest := [.ref (b 0)]) ⟨hx, hb, hml, hown, hts⟩ (mX3_add l G _ _ a q2 _ p0 p1 p2) (cwV 3 hts gX9_face_X3_add rfl rfl rfl (by decide +kernel) ⟨Nat.le_of_ble_eq_true rfl, Nat.le_of_ble_eq_true rfl⟩) hP hD hS hA hKn 2 3 rfl rfl rfl h rfl hl.1 rfl (Nat.le_of_ble_eq_true rfl) dX9_face_22 ⟨Nat.zero_le _, Nat.zero_le _⟩ (fun r7 q8 H locs h hP hD hS => ?_)
  have hP : va_P G.1 vwCl (wQ G a q8 ++ (wO G a b ae g az o3 ++ (wD G g d4 ++ (wQ G ae tq5 ++ (wZ G az zs6 ++ R))))) H := hP
  have hD : va_D A (wQ G a q8 ++ (wO G a b ae g az o3 ++ (wD G g d4 ++ (wQ G ae tq5 ++ (wZ G az zs6 ++ R))))) := hD
  refine qc_vi (As := [.int r7]) (rest := []) ⟨hx, hb, hml, hown, hts⟩ (mX9_recorded l G _ _ a b g ae az q8 o3 d4 tq5 zs6 _ r7) (cwV 1 hts gX9_face_X9_recorded rfl rfl rfl (by decide +kernel) ⟨Nat.le_of_ble_eq_true rfl, Nat.le_of_ble_eq_true rfl⟩) hP hD hS hA hKn 18 9 rfl rfl rfl h rfl hl.1 rfl (Nat.le_of_ble_eq_true rfl) dX9_face_25 ⟨Nat.zero_le _, Nat.zero_le _⟩ (fun r9 u H locs h hP hD hS => ?_)
  obtain ⟨q10, o11, d12, tq13, zs14⟩ := u
  have hP : va_P G.1 vwCl (wQ G a q10 ++ (wO G a b ae g az o11 ++ (wD G g d12 ++ (wQ G ae tq13 ++ (wZ G az zs14 ++ R))))) H := hP
  have hD : va_D A (wQ G a q10 ++ (wO G a b ae g az o11 ++ (wD G g d12 ++ (wQ G ae tq13 ++ (wZ G az zs14 ++ R))))) := hD
  exact hret _ _ _ _ _ _ _ _ _ _ h hP hD hS dX9_face_28
