abbrev rmX9_contract : Room := { frames := 5, cells := 0, slots := 0, locals := 102 }
theorem lX9_contract_f10 : Cond.fieldLink RX9 10 "QuarryBlends" "now" "LQuarryBlends$Quarry;" ∈ wsX9_contract := by decide +kernel
theorem lX9_contract_f22 : Cond.fieldLink RX9 22 "QuarryBlends" "history" "LQuarryBlends$History;" ∈ wsX9_contract := by decide +kernel
theorem lX9_contract_f62 : Cond.fieldLink RX9 62 "QuarryBlends$Quarry" "contracts" "LQuarryBlends$Contracts;" ∈ wsX9_contract := by decide +kernel
theorem iX9_contract_X6 : ∀ w ∈ wsX60, w ∈ wsX9_contract := by decide +kernel
theorem iX9_contract_X9 : ∀ w ∈ wsX90, w ∈ wsX9_contract := by decide +kernel
set_option maxHeartbeats 4000000 in
set_option maxRecDepth 100000 in
theorem mX9_contract (l : Launch) (G : qG) (k : Int32 → qS → qS → qS → qS → (Nat → qS) → Prop) (R : va_W) (a : Nat → Nat) (b : Nat → Nat) (g : Nat → Nat) (ae : Nat → Nat) (az : Nat → Nat → Nat) (q : qS) (o : qS) (d : qS) (tq : qS) (zs : (Nat → qS)) (sz : Nat) (p0 : Int32) (p1 : Int32) (p2 : Int32) (p3 : Int32) (p4 : Int32) (p5 : Int32) : Met l yX9_contract wsX9_contract rmX9_contract (qPc G [.ref (b 0), .int p0, .int p1, .int p2, .int p3, .int p4, .int p5] (wQ G a q ++ (wO G a b ae g az o ++ (wD G g d ++ (wQ G ae tq ++ (wZ G az zs ++ R))))) sz (wX9_contract k q o d tq zs p0 p1 p2 p3 p4 p5)) (qQi G (wQ G a q ++ (wO G a b ae g az o ++ (wD G g d ++ (wQ G ae tq ++ (wZ G az zs ++ R))))) sz (fun (r : Int32) (u : qS × qS × qS × qS × (Nat → qS)) => k r u.1 u.2.1 u.2.2.1 u.2.2.2.1 u.2.2.2.2) (fun (u : qS × qS × qS × qS × (Nat → qS)) => wQ G a u.1 ++ (wO G a b ae g az u.2.1 ++ (wD G g u.2.2.1 ++ (wQ G ae u.2.2.2.1 ++ (wZ G az u.2.2.2.2 ++ R)))))) 0 0 (va_A (wQ G a q ++ (wO G a b ae g az o ++ (wD G g d ++ (wQ G ae tq ++ (wZ G az zs ++ R))))) sz) := by
  refine Met.ofW (cc := cX9_contract) (maxL := 7) (ret := (some .int)) (by decide) rfl ?_
  intro p e s m args below meth c s₁ B hml hv
  obtain ⟨rfl, hsz, hP, hD0, hKn0, h⟩ := hv
  have hx := B.exec
  have hb := B.bytes
  have hr := B.returns
  have hts := atoms_spec (ws := wsX9_contract) B.pre
  have hown : s.vm.findClass RX9 = some m.cls := findClass_of_methodNamed B.named
  have hlocks := B.notSynchronized
  subst hsz
  have hD := hD0.self (sz := s.heap.size)
  generalize hAe : va_A (wQ G a q ++ (wO G a b ae g az o ++ (wD G g d ++ (wQ G ae tq ++ (wZ G az zs ++ R))))) s.heap.size = A at hD hKn0 ⊢
  have hA : ∀ q : Nat, s.heap.size ≤ q → A q := fun q h => by rw [← hAe]; exact Or.inr h
  have hKn : qKn G A s s.heap := hKn0
  have hS : va_S A s.heap s.heap [] := va_S.rf
  have hret : ∀ (r : Int32) (q' : qS) (o' : qS) (d' : qS) (tq' : qS) (zs' : (Nat → qS)) (H : Heap) (locs : List Loc) (ls : Array Slot) (pc : Nat), k r q' o' d' tq' zs' → va_P G.1 vwCl (wQ G a q' ++ (wO G a b ae g az o' ++ (wD G g d' ++ (wQ G ae tq' ++ (wZ G az zs' ++ R))))) H → va_D A (wQ G a q' ++ (wO G a b ae g az o' ++ (wD G g d' ++ (wQ G ae tq' ++ (wZ G az zs' ++ R))))) → va_S A s.heap H locs → decode cX9_contract pc = .ok (.ireturn, 1) → W p l e rmX9_contract s m #[.ref (b 0), .int p0, .int p1, .int p2, .int p3, .int p4, .int p5] below meth c H locs 0 0 (MQ below (qQi G (wQ G a q ++ (wO G a b ae g az o ++ (wD G g d ++ (wQ G ae tq ++ (wZ G az zs ++ R))))) s.heap.size (fun (r : Int32) (u : qS × qS × qS × qS × (Nat → qS)) => k r u.1 u.2.1 u.2.2.1 u.2.2.2.1 u.2.2.2.2) (fun (u : qS × qS × qS × qS × (Nat → qS)) => wQ G a u.1 ++ (wO G a b ae g az u.2.1 ++ (wD G g u.2.2.1 ++ (wQ G ae u.2.2.2.1 ++ (wZ G az u.2.2.2.2 ++ R)))))) #[.ref (b 0), .int p0, .int p1, .int p2, .int p3, .int p4, .int p5] s 0 0 A) (F0 m pc ls [.int r]) := fun r q' o' d' tq' zs' H locs ls pc hk hP hD hS hd => W.iret hx hb hr (fun t ht hW => q_ri (u := (⟨q', o', d', tq', zs'⟩ : qS × qS × qS × qS × (Nat → qS))) hAe hk hP hD hS ht) hS.2.2 hd
  have hl := lv_entry ([.ref (b 0), .int p0, .int p1, .int p2, .int p3, .int p4, .int p5]) (n := 7) (Nat.le_of_ble_eq_true rfl)
  rw [lg_entry_eq]
  generalize (lg_sl ([.ref (b 0), .int p0, .int p1, .int p2, .int p3, .int p4, .int p5]) ++ List.replicate (7 - (lg_sl ([.ref (b 0), .int p0, .int p1, .int p2, .int p3, .int p4, .int p5])).length) Slot.unset).toArray = ls at hl ⊢
  have hl : lv_has ls 7 [(0, .ref (b 0)), (1, .int p0), (2, .int p1), (3, .int p2), (4, .int p3), (5, .int p4), (6, .int p5)] := hl
  unfold wX9_contract at h
  show W p l e rmX9_contract s m #[.ref (b 0), .int p0, .int p1, .int p2, .int p3, .int p4, .int p5] below meth c s.heap [] 0 0 _ _
  refine lv_aload_n hx hb dX9_contract_0 rfl (lv_at hl 0 rfl) ?_
  refine va_get (D := G.1) (ci := 9) (v := .ref (b 1)) (C := RX9) (T := TX9) (N := 5) hx hb hts iX9_contract_X9 hown hKn.k hP 18 rfl rfl 2 (by decide) (hts _ lX9_contract_f22) (fun _ h9 => h9) rfl dX9_contract_1 ?_
  refine lv_aload_n hx hb dX9_contract_4 rfl (lv_at hl 0 rfl) ?_
  refine va_get (D := G.1) (ci := 9) (v := .ref (a 0)) (C := RX9) (T := TX9) (N := 5) hx hb hts iX9_contract_X9 hown hKn.k hP 18 rfl rfl 0 (by decide) (hts _ lX9_contract_f10) (fun _ h9 => h9) rfl dX9_contract_5 ?_
  refine qc_vv (As := [.ref (a 0)]) (rest := []) ⟨hx, hb, hml, hown, hts⟩ (mX4_prepare l G _ _ a b g ae az q o d tq zs _ ) (cwV 1 hts gX9_contract_X4_prepare rfl rfl rfl (by decide +kernel) ⟨Nat.le_of_ble_eq_true rfl, Nat.le_of_ble_eq_true rfl⟩) hP hD hS hA hKn 19 4 rfl rfl rfl h rfl hl.1 rfl (Nat.le_of_ble_eq_true rfl) dX9_contract_8 ⟨Nat.zero_le _, Nat.zero_le _⟩ (fun u H locs h hP hD hS => ?_)
  obtain ⟨q2, o3, d4, tq5, zs6⟩ := u
  have hP : va_P G.1 vwCl (wQ G a q2 ++ (wO G a b ae g az o3 ++ (wD G g d4 ++ (wQ G ae tq5 ++ (wZ G az zs6 ++ R))))) H := hP
  have hD : va_D A (wQ G a q2 ++ (wO G a b ae g az o3 ++ (wD G g d4 ++ (wQ G ae tq5 ++ (wZ G az zs6 ++ R))))) := hD
  refine lv_aload_n hx hb dX9_contract_11 rfl (lv_at hl 0 rfl) ?_
  refine lv_aload_n hx hb dX9_contract_12 rfl (lv_at hl 0 rfl) ?_
  refine va_get (D := G.1) (ci := 9) (v := .ref (a 0)) (C := RX9) (T := TX9) (N := 5) hx hb hts iX9_contract_X9 hown hKn.k hP 18 rfl rfl 0 (by decide) (hts _ lX9_contract_f10) (fun _ h9 => h9) rfl dX9_contract_13 ?_
  refine va_get (D := G.1) (ci := 6) (v := .ref (a 16)) (C := RX6) (T := TX6) (N := 10) hx hb hts iX9_contract_X6 hown hKn.k hP 0 rfl rfl 4 (by decide) (hts _ lX9_contract_f62) (fun _ h9 => h9) rfl dX9_contract_16 ?_
  refine lv_iload_n hx hb dX9_contract_19 rfl (lv_at hl 1 rfl) ?_
  refine lv_iload_n hx hb dX9_contract_20 rfl (lv_at hl 2 rfl) ?_
  refine lv_iload_n hx hb dX9_contract_21 rfl (lv_at hl 3 rfl) ?_
  refine lv_iload hx hb dX9_contract_22 (lv_at hl 4 rfl) ?_
  refine lv_iload hx hb dX9_contract_24 (lv_at hl 5 rfl) ?_
  refine lv_iload hx hb dX9_contract_26 (lv_at hl 6 rfl) ?_
  refine qc_vi (As := [.int p0, .int p1, .int p2, .int p3, .int p4, .int p5]) (rest := [.ref (b 0)]) ⟨hx, hb, hml, hown, hts⟩ (mX1_add l G _ _ a q2 _ p0 p1 p2 p3 p4 p5) (cwV 6 hts gX9_contract_X1_add rfl rfl rfl (by decide +kernel) ⟨Nat.le_of_ble_eq_true rfl, Nat.le_of_ble_eq_true rfl⟩) hP hD hS hA hKn 15 1 rfl rfl rfl h rfl hl.1 rfl (Nat.le_of_ble_eq_true rfl) dX9_contract_28 ⟨Nat.zero_le _, Nat.zero_le _⟩ (fun r7 q8 H locs h hP hD hS => ?_)
  have hP : va_P G.1 vwCl (wQ G a q8 ++ (wO G a b ae g az o3 ++ (wD G g d4 ++ (wQ G ae tq5 ++ (wZ G az zs6 ++ R))))) H := hP
  have hD : va_D A (wQ G a q8 ++ (wO G a b ae g az o3 ++ (wD G g d4 ++ (wQ G ae tq5 ++ (wZ G az zs6 ++ R))))) := hD
  refine qc_vi (As := [.int r7]) (rest := []) ⟨hx, hb, hml, hown, hts⟩ (mX9_recorded l G _ _ a b g ae az q8 o3 d4 tq5 zs6 _ r7) (cwV 1 hts gX9_contract_X9_recorded rfl rfl rfl (by decide +kernel) ⟨Nat.le_of_ble_eq_true rfl, Nat.le_of_ble_eq_true rfl⟩) hP hD hS hA hKn 18 9 rfl rfl rfl h rfl hl.1 rfl (Nat.le_of_ble_eq_true rfl) dX9_contract_31 ⟨Nat.zero_le _, Nat.zero_le _⟩ (fun r9 u H locs h hP hD hS => ?_)
  obtain ⟨q10, o11, d12, tq13, zs14⟩ := u
  have hP : va_P G.1 vwCl (wQ G a q10 ++ (wO G a b ae g az o11 ++ (wD G g d12 ++ (wQ G ae tq13 ++ (wZ G az zs14 ++ R))))) H := hP
  have hD : va_D A (wQ G a q10 ++ (wO G a b ae g az o11 ++ (wD G g d12 ++ (wQ G ae tq13 ++ (wZ G az zs14 ++ R))))) := hD
  exact hret _ _ _ _ _ _ _ _ _ _ h hP hD hS dX9_contract_34
abbrev rmX9_drop : Room := { frames := 5, cells := 0, slots := 0, locals := 102 }
theorem lX9_drop_f10 : Cond.fieldLink RX9 10 "QuarryBlends" "now" "LQuarryBlends$Quarry;" ∈ wsX9_drop := by decide +kernel
theorem lX9_drop_f22 : Cond.fieldLink RX9 22 "QuarryBlends" "history" "LQuarryBlends$History;" ∈ wsX9_drop := by decide +kernel
theorem lX9_drop_f62 : Cond.fieldLink RX9 62 "QuarryBlends$Quarry" "contracts" "LQuarryBlends$Contracts;" ∈ wsX9_drop := by decide +kernel
theorem iX9_drop_X6 : ∀ w ∈ wsX60, w ∈ wsX9_drop := by decide +kernel
theorem iX9_drop_X9 : ∀ w ∈ wsX90, w ∈ wsX9_drop := by decide +kernel
set_option maxHeartbeats 4000000 in
set_option maxRecDepth 100000 in
theorem mX9_drop (l : Launch) (G : qG) (k : Int32 → qS → qS → qS → qS → (Nat → qS) → Prop) (R : va_W) (a : Nat → Nat) (b : Nat → Nat) (g : Nat → Nat) (ae : Nat → Nat) (az : Nat → Nat → Nat) (q : qS) (o : qS) (d : qS) (tq : qS) (zs : (Nat → qS)) (sz : Nat) (p0 : Int32) : Met l yX9_drop wsX9_drop rmX9_drop (qPc G [.ref (b 0), .int p0] (wQ G a q ++ (wO G a b ae g az o ++ (wD G g d ++ (wQ G ae tq ++ (wZ G az zs ++ R))))) sz (wX9_drop k q o d tq zs p0)) (qQi G (wQ G a q ++ (wO G a b ae g az o ++ (wD G g d ++ (wQ G ae tq ++ (wZ G az zs ++ R))))) sz (fun (r : Int32) (u : qS × qS × qS × qS × (Nat → qS)) => k r u.1 u.2.1 u.2.2.1 u.2.2.2.1 u.2.2.2.2) (fun (u : qS × qS × qS × qS × (Nat → qS)) => wQ G a u.1 ++ (wO G a b ae g az u.2.1 ++ (wD G g u.2.2.1 ++ (wQ G ae u.2.2.2.1 ++ (wZ G az u.2.2.2.2 ++ R)))))) 0 0 (va_A (wQ G a q ++ (wO G a b ae g az o ++ (wD G g d ++ (wQ G ae tq ++ (wZ G az zs ++ R))))) sz) := by
  refine Met.ofW (cc := cX9_drop) (maxL := 2) (ret := (some .int)) (by decide) rfl ?_
  intro p e s m args below meth c s₁ B hml hv
  obtain ⟨rfl, hsz, hP, hD0, hKn0, h⟩ := hv
  have hx := B.exec
  have hb := B.bytes
  have hr := B.returns
  have hts := atoms_spec (ws := wsX9_drop) B.pre
  have hown : s.vm.findClass RX9 = some m.cls := findClass_of_methodNamed B.named
  have hlocks := B.notSynchronized
  subst hsz
  have hD := hD0.self (sz := s.heap.size)
  generalize hAe : va_A (wQ G a q ++ (wO G a b ae g az o ++ (wD G g d ++ (wQ G ae tq ++ (wZ G az zs ++ R))))) s.heap.size = A at hD hKn0 ⊢
  have hA : ∀ q : Nat, s.heap.size ≤ q → A q := fun q h => by rw [← hAe]; exact Or.inr h
  have hKn : qKn G A s s.heap := hKn0
  have hS : va_S A s.heap s.heap [] := va_S.rf
  have hret : ∀ (r : Int32) (q' : qS) (o' : qS) (d' : qS) (tq' : qS) (zs' : (Nat → qS)) (H : Heap) (locs : List Loc) (ls : Array Slot) (pc : Nat), k r q' o' d' tq' zs' → va_P G.1 vwCl (wQ G a q' ++ (wO G a b ae g az o' ++ (wD G g d' ++ (wQ G ae tq' ++ (wZ G az zs' ++ R))))) H → va_D A (wQ G a q' ++ (wO G a b ae g az o' ++ (wD G g d' ++ (wQ G ae tq' ++ (wZ G az zs' ++ R))))) → va_S A s.heap H locs → decode cX9_drop pc = .ok (.ireturn, 1) → W p l e rmX9_drop s m #[.ref (b 0), .int p0] below meth c H locs 0 0 (MQ below (qQi G (wQ G a q ++ (wO G a b ae g az o ++ (wD G g d ++ (wQ G ae tq ++ (wZ G az zs ++ R))))) s.heap.size (fun (r : Int32) (u : qS × qS × qS × qS × (Nat → qS)) => k r u.1 u.2.1 u.2.2.1 u.2.2.2.1 u.2.2.2.2) (fun (u : qS × qS × qS × qS × (Nat → qS)) => wQ G a u.1 ++ (wO G a b ae g az u.2.1 ++ (wD G g u.2.2.1 ++ (wQ G ae u.2.2.2.1 ++ (wZ G az u.2.2.2.2 ++ R)))))) #[.ref (b 0), .int p0] s 0 0 A) (F0 m pc ls [.int r]) := fun r q' o' d' tq' zs' H locs ls pc hk hP hD hS hd => W.iret hx hb hr (fun t ht hW => q_ri (u := (⟨q', o', d', tq', zs'⟩ : qS × qS × qS × qS × (Nat → qS))) hAe hk hP hD hS ht) hS.2.2 hd
  have hl := lv_entry ([.ref (b 0), .int p0]) (n := 2) (Nat.le_of_ble_eq_true rfl)
  rw [lg_entry_eq]
  generalize (lg_sl ([.ref (b 0), .int p0]) ++ List.replicate (2 - (lg_sl ([.ref (b 0), .int p0])).length) Slot.unset).toArray = ls at hl ⊢
  have hl : lv_has ls 2 [(0, .ref (b 0)), (1, .int p0)] := hl
  unfold wX9_drop at h
  show W p l e rmX9_drop s m #[.ref (b 0), .int p0] below meth c s.heap [] 0 0 _ _
  refine lv_aload_n hx hb dX9_drop_0 rfl (lv_at hl 0 rfl) ?_
  refine va_get (D := G.1) (ci := 9) (v := .ref (b 1)) (C := RX9) (T := TX9) (N := 5) hx hb hts iX9_drop_X9 hown hKn.k hP 18 rfl rfl 2 (by decide) (hts _ lX9_drop_f22) (fun _ h9 => h9) rfl dX9_drop_1 ?_
  refine lv_aload_n hx hb dX9_drop_4 rfl (lv_at hl 0 rfl) ?_
  refine va_get (D := G.1) (ci := 9) (v := .ref (a 0)) (C := RX9) (T := TX9) (N := 5) hx hb hts iX9_drop_X9 hown hKn.k hP 18 rfl rfl 0 (by decide) (hts _ lX9_drop_f10) (fun _ h9 => h9) rfl dX9_drop_5 ?_
  refine qc_vv (As := [.ref (a 0)]) (rest := []) ⟨hx, hb, hml, hown, hts⟩ (mX4_prepare l G _ _ a b g ae az q o d tq zs _ ) (cwV 1 hts gX9_drop_X4_prepare rfl rfl rfl (by decide +kernel) ⟨Nat.le_of_ble_eq_true rfl, Nat.le_of_ble_eq_true rfl⟩) hP hD hS hA hKn 19 4 rfl rfl rfl h rfl hl.1 rfl (Nat.le_of_ble_eq_true rfl) dX9_drop_8 ⟨Nat.zero_le _, Nat.zero_le _⟩ (fun u H locs h hP hD hS => ?_)
  obtain ⟨q2, o3, d4, tq5, zs6⟩ := u
  have hP : va_P G.1 vwCl (wQ G a q2 ++ (wO G a b ae g az o3 ++ (wD G g d4 ++ (wQ G ae tq5 ++ (wZ G az zs6 ++ R))))) H := hP
  have hD : va_D A (wQ G a q2 ++ (wO G a b ae g az o3 ++ (wD G g d4 ++ (wQ G ae tq5 ++ (wZ G az zs6 ++ R))))) := hD
  refine lv_aload_n hx hb dX9_drop_11 rfl (lv_at hl 0 rfl) ?_
  refine lv_aload_n hx hb dX9_drop_12 rfl (lv_at hl 0 rfl) ?_
  refine va_get (D := G.1) (ci := 9) (v := .ref (a 0)) (C := RX9) (T := TX9) (N := 5) hx hb hts iX9_drop_X9 hown hKn.k hP 18 rfl rfl 0 (by decide) (hts _ lX9_drop_f10) (fun _ h9 => h9) rfl dX9_drop_13 ?_
  refine va_get (D := G.1) (ci := 6) (v := .ref (a 16)) (C := RX6) (T := TX6) (N := 10) hx hb hts iX9_drop_X6 hown hKn.k hP 0 rfl rfl 4 (by decide) (hts _ lX9_drop_f62) (fun _ h9 => h9) rfl dX9_drop_16 ?_
  refine lv_iload_n hx hb dX9_drop_19 rfl (lv_at hl 1 rfl) ?_
  refine qc_vi (As := [.int p0]) (rest := [.ref (b 0)]) ⟨hx, hb, hml, hown, hts⟩ (mX1_dropOne l G _ _ a q2 _ p0) (cwV 1 hts gX9_drop_X1_dropOne rfl rfl rfl (by decide +kernel) ⟨Nat.le_of_ble_eq_true rfl, Nat.le_of_ble_eq_true rfl⟩) hP hD hS hA hKn 15 1 rfl rfl rfl h rfl hl.1 rfl (Nat.le_of_ble_eq_true rfl) dX9_drop_20 ⟨Nat.zero_le _, Nat.zero_le _⟩ (fun r7 q8 H locs h hP hD hS => ?_)
  have hP : va_P G.1 vwCl (wQ G a q8 ++ (wO G a b ae g az o3 ++ (wD G g d4 ++ (wQ G ae tq5 ++ (wZ G az zs6 ++ R))))) H := hP
  have hD : va_D A (wQ G a q8 ++ (wO G a b ae g az o3 ++ (wD G g d4 ++ (wQ G ae tq5 ++ (wZ G az zs6 ++ R))))) := hD
  refine qc_vi (As := [.int r7]) (rest := []) ⟨hx, hb, hml, hown, hts⟩ (mX9_recorded l G _ _ a b g ae az q8 o3 d4 tq5 zs6 _ r7) (cwV 1 hts gX9_drop_X9_recorded rfl rfl rfl (by decide +kernel) ⟨Nat.le_of_ble_eq_true rfl, Nat.le_of_ble_eq_true rfl⟩) hP hD hS hA hKn 18 9 rfl rfl rfl h rfl hl.1 rfl (Nat.le_of_ble_eq_true rfl) dX9_drop_23 ⟨Nat.zero_le _, Nat.zero_le _⟩ (fun r9 u H locs h hP hD hS => ?_)
  obtain ⟨q10, o11, d12, tq13, zs14⟩ := u
  have hP : va_P G.1 vwCl (wQ G a q10 ++ (wO G a b ae g az o11 ++ (wD G g d12 ++ (wQ G ae tq13 ++ (wZ G az zs14 ++ R))))) H := hP
  have hD : va_D A (wQ G a q10 ++ (wO G a b ae g az o11 ++ (wD G g d12 ++ (wQ G ae tq13 ++ (wZ G az zs14 ++ R))))) := hD
  exact hret _ _ _ _ _ _ _ _ _ _ h hP hD hS dX9_drop_26
abbrev rmX9_mend : Room := { frames := 5, cells := 0, slots := 0, locals := 102 }
theorem lX9_mend_f10 : Cond.fieldLink RX9 10 "QuarryBlends" "now" "LQuarryBlends$Quarry;" ∈ wsX9_mend := by decide +kernel
theorem lX9_mend_f22 : Cond.fieldLink RX9 22 "QuarryBlends" "history" "LQuarryBlends$History;" ∈ wsX9_mend := by decide +kernel
theorem lX9_mend_f74 : Cond.fieldLink RX9 74 "QuarryBlends$Quarry" "crusher" "LQuarryBlends$Crusher;" ∈ wsX9_mend := by decide +kernel
theorem iX9_mend_X6 : ∀ w ∈ wsX60, w ∈ wsX9_mend := by decide +kernel
theorem iX9_mend_X9 : ∀ w ∈ wsX90, w ∈ wsX9_mend := by decide +kernel
set_option maxHeartbeats 4000000 in
set_option maxRecDepth 100000 in
theorem mX9_mend (l : Launch) (G : qG) (k : Int32 → qS → qS → qS → qS → (Nat → qS) → Prop) (R : va_W) (a : Nat → Nat) (b : Nat → Nat) (g : Nat → Nat) (ae : Nat → Nat) (az : Nat → Nat → Nat) (q : qS) (o : qS) (d : qS) (tq : qS) (zs : (Nat → qS)) (sz : Nat) : Met l yX9_mend wsX9_mend rmX9_mend (qPc G [.ref (b 0)] (wQ G a q ++ (wO G a b ae g az o ++ (wD G g d ++ (wQ G ae tq ++ (wZ G az zs ++ R))))) sz (wX9_mend k q o d tq zs)) (qQi G (wQ G a q ++ (wO G a b ae g az o ++ (wD G g d ++ (wQ G ae tq ++ (wZ G az zs ++ R))))) sz (fun (r : Int32) (u : qS × qS × qS × qS × (Nat → qS)) => k r u.1 u.2.1 u.2.2.1 u.2.2.2.1 u.2.2.2.2) (fun (u : qS × qS × qS × qS × (Nat → qS)) => wQ G a u.1 ++ (wO G a b ae g az u.2.1 ++ (wD G g u.2.2.1 ++ (wQ G ae u.2.2.2.1 ++ (wZ G az u.2.2.2.2 ++ R)))))) 0 0 (va_A (wQ G a q ++ (wO G a b ae g az o ++ (wD G g d ++ (wQ G ae tq ++ (wZ G az zs ++ R))))) sz) := by
  refine Met.ofW (cc := cX9_mend) (maxL := 1) (ret := (some .int)) (by decide) rfl ?_
  intro p e s m args below meth c s₁ B hml hv
  obtain ⟨rfl, hsz, hP, hD0, hKn0, h⟩ := hv
  have hx := B.exec
  have hb := B.bytes
  have hr := B.returns
  have hts := atoms_spec (ws := wsX9_mend) B.pre
  have hown : s.vm.findClass RX9 = some m.cls := findClass_of_methodNamed B.named
  have hlocks := B.notSynchronized
  subst hsz
  have hD := hD0.self (sz := s.heap.size)
  generalize hAe : va_A (wQ G a q ++ (wO G a b ae g az o ++ (wD G g d ++ (wQ G ae tq ++ (wZ G az zs ++ R))))) s.heap.size = A at hD hKn0 ⊢
  have hA : ∀ q : Nat, s.heap.size ≤ q → A q := fun q h => by rw [← hAe]; exact Or.inr h
  have hKn : qKn G A s s.heap := hKn0
  have hS : va_S A s.heap s.heap [] := va_S.rf
  have hret : ∀ (r : Int32) (q' : qS) (o' : qS) (d' : qS) (tq' : qS) (zs' : (Nat → qS)) (H : Heap) (locs : List Loc) (ls : Array Slot) (pc : Nat), k r q' o' d' tq' zs' → va_P G.1 vwCl (wQ G a q' ++ (wO G a b ae g az o' ++ (wD G g d' ++ (wQ G ae tq' ++ (wZ G az zs' ++ R))))) H → va_D A (wQ G a q' ++ (wO G a b ae g az o' ++ (wD G g d' ++ (wQ G ae tq' ++ (wZ G az zs' ++ R))))) → va_S A s.heap H locs → decode cX9_mend pc = .ok (.ireturn, 1) → W p l e rmX9_mend s m #[.ref (b 0)] below meth c H locs 0 0 (MQ below (qQi G (wQ G a q ++ (wO G a b ae g az o ++ (wD G g d ++ (wQ G ae tq ++ (wZ G az zs ++ R))))) s.heap.size (fun (r : Int32) (u : qS × qS × qS × qS × (Nat → qS)) => k r u.1 u.2.1 u.2.2.1 u.2.2.2.1 u.2.2.2.2) (fun (u : qS × qS × qS × qS × (Nat → qS)) => wQ G a u.1 ++ (wO G a b ae g az u.2.1 ++ (wD G g u.2.2.1 ++ (wQ G ae u.2.2.2.1 ++ (wZ G az u.2.2.2.2 ++ R)))))) #[.ref (b 0)] s 0 0 A) (F0 m pc ls [.int r]) := fun r q' o' d' tq' zs' H locs ls pc hk hP hD hS hd => W.iret hx hb hr (fun t ht hW => q_ri (u := (⟨q', o', d', tq', zs'⟩ : qS × qS × qS × qS × (Nat → qS))) hAe hk hP hD hS ht) hS.2.2 hd
  have hl := lv_entry ([.ref (b 0)]) (n := 1) (Nat.le_of_ble_eq_true rfl)
  rw [lg_entry_eq]
  generalize (lg_sl ([.ref (b 0)]) ++ List.replicate (1 - (lg_sl ([.ref (b 0)])).length) Slot.unset).toArray = ls at hl ⊢
  have hl : lv_has ls 1 [(0, .ref (b 0))] := hl
  unfold wX9_mend at h
  show W p l e rmX9_mend s m #[.ref (b 0)] below meth c s.heap [] 0 0 _ _
  refine lv_aload_n hx hb dX9_mend_0 rfl (lv_at hl 0 rfl) ?_
  refine va_get (D := G.1) (ci := 9) (v := .ref (b 1)) (C := RX9) (T := TX9) (N := 5) hx hb hts iX9_mend_X9 hown hKn.k hP 18 rfl rfl 2 (by decide) (hts _ lX9_mend_f22) (fun _ h9 => h9) rfl dX9_mend_1 ?_
  refine lv_aload_n hx hb dX9_mend_4 rfl (lv_at hl 0 rfl) ?_
  refine va_get (D := G.1) (ci := 9) (v := .ref (a 0)) (C := RX9) (T := TX9) (N := 5) hx hb hts iX9_mend_X9 hown hKn.k hP 18 rfl rfl 0 (by decide) (hts _ lX9_mend_f10) (fun _ h9 => h9) rfl dX9_mend_5 ?_
  refine qc_vv (As := [.ref (a 0)]) (rest := []) ⟨hx, hb, hml, hown, hts⟩ (mX4_prepare l G _ _ a b g ae az q o d tq zs _ ) (cwV 1 hts gX9_mend_X4_prepare rfl rfl rfl (by decide +kernel) ⟨Nat.le_of_ble_eq_true rfl, Nat.le_of_ble_eq_true rfl⟩) hP hD hS hA hKn 19 4 rfl rfl rfl h rfl hl.1 rfl (Nat.le_of_ble_eq_true rfl) dX9_mend_8 ⟨Nat.zero_le _, Nat.zero_le _⟩ (fun u H locs h hP hD hS => ?_)
  obtain ⟨q2, o3, d4, tq5, zs6⟩ := u
  have hP : va_P G.1 vwCl (wQ G a q2 ++ (wO G a b ae g az o3 ++ (wD G g d4 ++ (wQ G ae tq5 ++ (wZ G az zs6 ++ R))))) H := hP
  have hD : va_D A (wQ G a q2 ++ (wO G a b ae g az o3 ++ (wD G g d4 ++ (wQ G ae tq5 ++ (wZ G az zs6 ++ R))))) := hD
  refine lv_aload_n hx hb dX9_mend_11 rfl (lv_at hl 0 rfl) ?_
  refine lv_aload_n hx hb dX9_mend_12 rfl (lv_at hl 0 rfl) ?_
  refine va_get (D := G.1) (ci := 9) (v := .ref (a 0)) (C := RX9) (T := TX9) (N := 5) hx hb hts iX9_mend_X9 hown hKn.k hP 18 rfl rfl 0 (by decide) (hts _ lX9_mend_f10) (fun _ h9 => h9) rfl dX9_mend_13 ?_
  refine va_get (D := G.1) (ci := 6) (v := .ref (a 15)) (C := RX6) (T := TX6) (N := 10) hx hb hts iX9_mend_X6 hown hKn.k hP 0 rfl rfl 3 (by decide) (hts _ lX9_mend_f74) (fun _ h9 => h9) rfl dX9_mend_16 ?_
  refine qc_vi (As := []) (rest := [.ref (b 0)]) ⟨hx, hb, hml, hown, hts⟩ (mX2_becomeAsNew l G _ _ a q2 _ ) (cwV 0 hts gX9_mend_X2_becomeAsNew rfl rfl rfl (by decide +kernel) ⟨Nat.le_of_ble_eq_true rfl, Nat.le_of_ble_eq_true rfl⟩) hP hD hS hA hKn 12 2 rfl rfl rfl h rfl hl.1 rfl (Nat.le_of_ble_eq_true rfl) dX9_mend_19 ⟨Nat.zero_le _, Nat.zero_le _⟩ (fun r7 q8 H locs h hP hD hS => ?_)
  have hP : va_P G.1 vwCl (wQ G a q8 ++ (wO G a b ae g az o3 ++ (wD G g d4 ++ (wQ G ae tq5 ++ (wZ G az zs6 ++ R))))) H := hP
  have hD : va_D A (wQ G a q8 ++ (wO G a b ae g az o3 ++ (wD G g d4 ++ (wQ G ae tq5 ++ (wZ G az zs6 ++ R))))) := hD
  refine qc_vi (As := [.int r7]) (rest := []) ⟨hx, hb, hml, hown, hts⟩ (mX9_recorded l G _ _ a b g ae az q8 o3 d4 tq5 zs6 _ r7) (cwV 1 hts gX9_mend_X9_recorded rfl rfl rfl (by decide +kernel) ⟨Nat.le_of_ble_eq_true rfl, Nat.le_of_ble_eq_true rfl⟩) hP hD hS hA hKn 18 9 rfl rfl rfl h rfl hl.1 rfl (Nat.le_of_ble_eq_true rfl) dX9_mend_22 ⟨Nat.zero_le _, Nat.zero_le _⟩ (fun r9 u H locs h hP hD hS => ?_)
  obtain ⟨q10, o11, d12, tq13, zs14⟩ := u
  have hP : va_P G.1 vwCl (wQ G a q10 ++ (wO G a b ae g az o11 ++ (wD G g d12 ++ (wQ G ae tq13 ++ (wZ G az zs14 ++ R))))) H := hP
  have hD : va_D A (wQ G a q10 ++ (wO G a b ae g az o11 ++ (wD G g d12 ++ (wQ G ae tq13 ++ (wZ G az zs14 ++ R))))) := hD
  exact hret _ _ _ _ _ _ _ _ _ _ h hP hD hS dX9_mend_25
abbrev rmX9_pass : Room := { frames := 6, cells := 0, slots := 0, locals := 136 }
theorem lX9_pass_f10 : Cond.fieldLink RX9 10 "QuarryBlends" "now" "LQuarryBlends$Quarry;" ∈ wsX9_pass := by decide +kernel
theorem lX9_pass_f22 : Cond.fieldLink RX9 22 "QuarryBlends" "history" "LQuarryBlends$History;" ∈ wsX9_pass := by decide +kernel
theorem iX9_pass_X9 : ∀ w ∈ wsX90, w ∈ wsX9_pass := by decide +kernel
set_option maxHeartbeats 4000000 in
set_option maxRecDepth 100000 in
theorem mX9_pass (l : Launch) (G : qG) (k : Int32 → qS → qS → qS → qS → (Nat → qS) → Prop) (R : va_W) (a : Nat → Nat) (b : Nat → Nat) (g : Nat → Nat) (ae : Nat → Nat) (az : Nat → Nat → Nat) (q : qS) (o : qS) (d : qS) (tq : qS) (zs : (Nat → qS)) (sz : Nat) (p0 : Int32) : Met l yX9_pass wsX9_pass rmX9_pass (qPc G [.ref (b 0), .int p0] (wQ G a q ++ (wO G a b ae g az o ++ (wD G g d ++ (wQ G ae tq ++ (wZ G az zs ++ R))))) sz (wX9_pass k q o d tq zs p0)) (qQi G (wQ G a q ++ (wO G a b ae g az o ++ (wD G g d ++ (wQ G ae tq ++ (wZ G az zs ++ R))))) sz (fun (r : Int32) (u : qS × qS × qS × qS × (Nat → qS)) => k r u.1 u.2.1 u.2.2.1 u.2.2.2.1 u.2.2.2.2) (fun (u : qS × qS × qS × qS × (Nat → qS)) => wQ G a u.1 ++ (wO G a b ae g az u.2.1 ++ (wD G g u.2.2.1 ++ (wQ G ae u.2.2.2.1 ++ (wZ G az u.2.2.2.2 ++ R)))))) 0 0 (va_A (wQ G a q ++ (wO G a b ae g az o ++ (wD G g d ++ (wQ G ae tq ++ (wZ G az zs ++ R))))) sz) := by
  refine Met.ofW (cc := cX9_pass) (maxL := 2) (ret := (some .int)) (by decide) rfl ?_
  intro p e s m args below meth c s₁ B hml hv
  obtain ⟨rfl, hsz, hP, hD0, hKn0, h⟩ := hv
  have hx := B.exec
  have hb := B.bytes
  have hr := B.returns
  have hts := atoms_spec (ws := wsX9_pass) B.pre
  have hown : s.vm.findClass RX9 = some m.cls := findClass_of_methodNamed B.named
  have hlocks := B.notSynchronized
  subst hsz
  have hD := hD0.self (sz := s.heap.size)
  generalize hAe : va_A (wQ G a q ++ (wO G a b ae g az o ++ (wD G g d ++ (wQ G ae tq ++ (wZ G az zs ++ R))))) s.heap.size = A at hD hKn0 ⊢
  have hA : ∀ q : Nat, s.heap.size ≤ q → A q := fun q h => by rw [← hAe]; exact Or.inr h
  have hKn : qKn G A s s.heap := hKn0
  have hS : va_S A s.heap s.heap [] := va_S.rf
  have hret : ∀ (r : Int32) (q' : qS) (o' : qS) (d' : qS) (tq' : qS) (zs' : (Nat → qS)) (H : Heap) (locs : List Loc) (ls : Array Slot) (pc : Nat), k r q' o' d' tq' zs' → va_P G.1 vwCl (wQ G a q' ++ (wO G a b ae g az o' ++ (wD G g d' ++ (wQ G ae tq' ++ (wZ G az zs' ++ R))))) H → va_D A (wQ G a q' ++ (wO G a b ae g az o' ++ (wD G g d' ++ (wQ G ae tq' ++ (wZ G az zs' ++ R))))) → va_S A s.heap H locs → decode cX9_pass pc = .ok (.ireturn, 1) → W p l e rmX9_pass s m #[.ref (b 0), .int p0] below meth c H locs 0 0 (MQ below (qQi G (wQ G a q ++ (wO G a b ae g az o ++ (wD G g d ++ (wQ G ae tq ++ (wZ G az zs ++ R))))) s.heap.size (fun (r : Int32) (u : qS × qS × qS × qS × (Nat → qS)) => k r u.1 u.2.1 u.2.2.1 u.2.2.2.1 u.2.2.2.2) (fun (u : qS × qS × qS × qS × (Nat → qS)) => wQ G a u.1 ++ (wO G a b ae g az u.2.1 ++ (wD G g u.2.2.1 ++ (wQ G ae u.2.2.2.1 ++ (wZ G az u.2.2.2.2 ++ R)))))) #[.ref (b 0), .int p0] s 0 0 A) (F0 m pc ls [.int r]) := fun r q' o' d' tq' zs' H locs ls pc hk hP hD hS hd => W.iret hx hb hr (fun t ht hW => q_ri (u := (⟨q', o', d', tq', zs'⟩ : qS × qS × qS × qS × (Nat → qS))) hAe hk hP hD hS ht) hS.2.2 hd
  have hl := lv_entry ([.ref (b 0), .int p0]) (n := 2) (Nat.le_of_ble_eq_true rfl)
  rw [lg_entry_eq]
  generalize (lg_sl ([.ref (b 0), .int p0]) ++ List.replicate (2 - (lg_sl ([.ref (b 0), .int p0])).length) Slot.unset).toArray = ls at hl ⊢
  have hl : lv_has ls 2 [(0, .ref (b 0)), (1, .int p0)] := hl
  unfold wX9_pass at h
  show W p l e rmX9_pass s m #[.ref (b 0), .int p0] below meth c s.heap [] 0 0 _ _
  refine lv_aload_n hx hb dX9_pass_0 rfl (lv_at hl 0 rfl) ?_
  refine va_get (D := G.1) (ci := 9) (v := .ref (b 1)) (C := RX9) (T := TX9) (N := 5) hx hb hts iX9_pass_X9 hown hKn.k hP 18 rfl rfl 2 (by decide) (hts _ lX9_pass_f22) (fun _ h9 => h9) rfl dX9_pass_1 ?_
  refine lv_aload_n hx hb dX9_pass_4 rfl (lv_at hl 0 rfl) ?_
  refine va_get (D := G.1) (ci := 9) (v := .ref (a 0)) (C := RX9) (T := TX9) (N := 5) hx hb hts iX9_pass_X9 hown hKn.k hP 18 rfl rfl 0 (by decide) (hts _ lX9_pass_f10) (fun _ h9 => h9) rfl dX9_pass_5 ?_
  refine qc_vv (As := [.ref (a 0)]) (rest := []) ⟨hx, hb, hml, hown, hts⟩ (mX4_prepare l G _ _ a b g ae az q o d tq zs _ ) (cwV 1 hts gX9_pass_X4_prepare rfl rfl rfl (by decide +kernel) ⟨Nat.le_of_ble_eq_true rfl, Nat.le_of_ble_eq_true rfl⟩) hP hD hS hA hKn 19 4 rfl rfl rfl h rfl hl.1 rfl (Nat.le_of_ble_eq_true rfl) dX9_pass_8 ⟨Nat.zero_le _, Nat.zero_le _⟩ (fun u H locs h hP hD hS => ?_)
  obtain ⟨q2, o3, d4, tq5, zs6⟩ := u
  have hP : va_P G.1 vwCl (wQ G a q2 ++ (wO G a b ae g az o3 ++ (wD G g d4 ++ (wQ G ae tq5 ++ (wZ G az zs6 ++ R))))) H := hP
  have hD : va_D A (wQ G a q2 ++ (wO G a b ae g az o3 ++ (wD G g d4 ++ (wQ G ae tq5 ++ (wZ G az zs6 ++ R))))) := hD
  refine lv_aload_n hx hb dX9_pass_11 rfl (lv_at hl 0 rfl) ?_
  refine lv_aload_n hx hb dX9_pass_12 rfl (lv_at hl 0 rfl) ?_
  refine va_get (D := G.1) (ci := 9) (v := .ref (a 0)) (C := RX9) (T := TX9) (N := 5) hx hb hts iX9_pass_X9 hown hKn.k hP 18 rfl rfl 0 (by decide) (hts _ lX9_pass_f10) (fun _ h9 => h9) rfl dX9_pass_13 ?_
  refine lv_iload_n hx hb dX9_pass_16 rfl (lv_at hl 1 rfl) ?_
  refine qc_vi (As := [.int p0]) (rest := [.ref (b 0)]) ⟨hx, hb, hml, hown, hts⟩ (mX6_passDays l G _ _ a q2 _ p0) (cwV 1 hts gX9_pass_X6_passDays rfl rfl rfl (by decide +kernel) ⟨Nat.le_of_ble_eq_true rfl, Nat.le_of_ble_eq_true rfl⟩) hP hD hS hA hKn 0 6 rfl rfl rfl h rfl hl.1 rfl (Nat.le_of_ble_eq_true rfl) dX9_pass_17 ⟨Nat.zero_le _, Nat.zero_le _⟩ (fun r7 q8 H locs h hP hD hS => ?_)
  have hP : va_P G.1 vwCl (wQ G a q8 ++ (wO G a b ae g az o3 ++ (wD G g d4 ++ (wQ G ae tq5 ++ (wZ G az zs6 ++ R))))) H := hP
  have hD : va_D A (wQ G a q8 ++ (wO G a b ae g az o3 ++ (wD G g d4 ++ (wQ G ae tq5 ++ (wZ G az zs6 ++ R))))) := hD
  refine qc_vi (As := [.int r7]) (rest := []) ⟨hx, hb, hml, hown, hts⟩ (mX9_recorded l G _ _ a b g ae az q8 o3 d4 tq5 zs6 _ r7) (cwV 1 hts gX9_pass_X9_recorded rfl rfl rfl (by decide +kernel) ⟨Nat.le_of_ble_eq_true rfl, Nat.le_of_ble_eq_true rfl⟩) hP hD hS hA hKn 18 9 rfl rfl rfl h rfl hl.1 rfl (Nat.le_of_ble_eq_true rfl) dX9_pass_20 ⟨Nat.zero_le _, Nat.zero_le _⟩ (fun r9 u H locs h hP hD hS => ?_)
  obtain ⟨q10, o11, d12, tq13, zs14⟩ := u
  have hP : va_P G.1 vwCl (wQ G a q10 ++ (wO G a b ae g az o11 ++ (wD G g d12 ++ (wQ G ae tq13 ++ (wZ G az zs14 ++ R))))) H := hP
  have hD : va_D A (wQ G a q10 ++ (wO G a b ae g az o11 ++ (wD G g d12 ++ (wQ G ae tq13 ++ (wZ G az zs14 ++ R))))) := hD
  exact hret _ _ _ _ _ _ _ _ _ _ h hP hD hS dX9_pass_23
abbrev rmX9_ofFace : Room := { frames := 1, cells := 0, slots := 0, locals := 23 }
theorem lX9_ofFace_f10 : Cond.fieldLink RX9 10 "QuarryBlends" "now" "LQuarryBlends$Quarry;" ∈ wsX9_ofFace := by decide +kernel
theorem lX9_ofFace_f101 : Cond.fieldLink RX9 101 "QuarryBlends$Quarry" "trucks" "LQuarryBlends$Trucks;" ∈ wsX9_ofFace := by decide +kernel
theorem lX9_ofFace_f110 : Cond.fieldLink RX9 110 "QuarryBlends$Faces" "taken" "[I" ∈ wsX9_ofFace := by decide +kernel
theorem lX9_ofFace_f52 : Cond.fieldLink RX9 52 "QuarryBlends$Quarry" "faces" "LQuarryBlends$Faces;" ∈ wsX9_ofFace := by decide +kernel
theorem lX9_ofFace_f91 : Cond.fieldLink RX9 91 "QuarryBlends$Faces" "left" "[I" ∈ wsX9_ofFace := by decide +kernel
theorem lX9_ofFace_f95 : Cond.fieldLink RX9 95 "QuarryBlends$Faces" "hardness" "[I" ∈ wsX9_ofFace := by decide +kernel
theorem lX9_ofFace_f98 : Cond.fieldLink RX9 98 "QuarryBlends$Faces" "way" "[I" ∈ wsX9_ofFace := by decide +kernel
theorem iX9_ofFace_X3 : ∀ w ∈ wsX30, w ∈ wsX9_ofFace := by decide +kernel
theorem iX9_ofFace_X6 : ∀ w ∈ wsX60, w ∈ wsX9_ofFace := by decide +kernel
theorem iX9_ofFace_X9 : ∀ w ∈ wsX90, w ∈ wsX9_ofFace := by decide +kernel
set_option maxHeartbeats 4000000 in
set_option maxRecDepth 100000 in
theorem mX9_ofFace (l : Launch) (G : qG) (k : Int32 → qS → qS → qS → qS → (Nat → qS) → Prop) (R : va_W) (a : Nat → Nat) (b : Nat → Nat) (g : Nat → Nat) (ae : Nat → Nat) (az : Nat → Nat → Nat) (q : qS) (o : qS) (d : qS) (tq : qS) (zs : (Nat → qS)) (sz : Nat) (p0 : Int32) (p1 : Int32) : Met l yX9_ofFace wsX9_ofFace rmX9_ofFace (qPc G [.ref (b 0), .int p0, .int p1] (wQ G a q ++ (wO G a b ae g az o ++ (wD G g d ++ (wQ G ae tq ++ (wZ G az zs ++ R))))) sz (wX9_ofFace k q o d tq zs p0 p1)) (qQi G (wQ G a q ++ (wO G a b ae g az o ++ (wD G g d ++ (wQ G ae tq ++ (wZ G az zs ++ R))))) sz (fun (r : Int32) (u : qS × qS × qS × qS × (Nat → qS)) => k r u.1 u.2.1 u.2.2.1 u.2.2.2.1 u.2.2.2.2) (fun (u : qS × qS × qS × qS × (Nat → qS)) => wQ G a u.1 ++ (wO G a b ae g az u.2.1 ++ (wD G g u.2.2.1 ++ (wQ G ae u.2.2.2.1 ++ (wZ G az u.2.2.2.2 ++ R)))))) 0 0 (va_A (wQ G a q ++ (wO G a b ae g az o ++ (wD G g d ++ (wQ G ae tq ++ (wZ G az zs ++ R))))) sz) := by
  refine Met.ofW (cc := cX9_ofFace) (maxL := 4) (ret := (some .int)) (by decide) rfl ?_
  intro p e s m args below meth c s₁ B hml hv
  obtain ⟨rfl, hsz, hP, hD0, hKn0, h⟩ := hv
  have hx := B.exec
  have hb := B.bytes
  have hr := B.returns
  have hts := atoms_spec (ws := wsX9_ofFace) B.pre
  have hown : s.vm.findClass RX9 = some m.cls := findClass_of_methodNamed B.named
  have hlocks := B.notSynchronized
  subst hsz
  have hD := hD0.self (sz := s.heap.size)
  generalize hAe : va_A (wQ G a q ++ (wO G a b ae g az o ++ (wD G g d ++ (wQ G ae tq ++ (wZ G az zs ++ R))))) s.heap.size = A at hD hKn0 ⊢
  have hA : ∀ q : Nat, s.heap.size ≤ q → A q := fun q h => by rw [← hAe]; exact Or.inr h
  have hKn : qKn G A s s.heap := hKn0
  have hS : va_S A s.heap s.heap [] := va_S.rf
  have hret : ∀ (r : Int32) (q' : qS) (o' : qS) (d' : qS) (tq' : qS) (zs' : (Nat → qS)) (H : Heap) (locs : List Loc) (ls : Array Slot) (pc : Nat), k r q' o' d' tq' zs' → va_P G.1 vwCl (wQ G a q' ++ (wO G a b ae g az o' ++ (wD G g d' ++ (wQ G ae tq' ++ (wZ G az zs' ++ R))))) H → va_D A (wQ G a q' ++ (wO G a b ae g az o' ++ (wD G g d' ++ (wQ G ae tq' ++ (wZ G az zs' ++ R))))) → va_S A s.heap H locs → decode cX9_ofFace pc = .ok (.ireturn, 1) → W p l e rmX9_ofFace s m #[.ref (b 0), .int p0, .int p1] below meth c H locs 0 0 (MQ below (qQi G (wQ G a q ++ (wO G a b ae g az o ++ (wD G g d ++ (wQ G ae tq ++ (wZ G az zs ++ R))))) s.heap.size (fun (r : Int32) (u : qS × qS × qS × qS × (Nat → qS)) => k r u.1 u.2.1 u.2.2.1 u.2.2.2.1 u.2.2.2.2) (fun (u : qS × qS × qS × qS × (Nat → qS)) => wQ G a u.1 ++ (wO G a b ae g az u.2.1 ++ (wD G g u.2.2.1 ++ (wQ G ae u.2.2.2.1 ++ (wZ G az u.2.2.2.2 ++ R)))))) #[.ref (b 0), .int p0, .int p1] s 0 0 A) (F0 m pc ls [.int r]) := fun r q' o' d' tq' zs' H locs ls pc hk hP hD hS hd => W.iret hx hb hr (fun t ht hW => q_ri (u := (⟨q', o', d', tq', zs'⟩ : qS × qS × qS × qS × (Nat → qS))) hAe hk hP hD hS ht) hS.2.2 hd
  have hl := lv_entry ([.ref (b 0), .int p0, .int p1]) (n := 4) (Nat.le_of_ble_eq_true rfl)
  rw [lg_entry_eq]
  generalize (lg_sl ([.ref (b 0), .int p0, .int p1]) ++ List.replicate (4 - (lg_sl ([.ref (b 0), .int p0, .int p1])).length) Slot.unset).toArray = ls at hl ⊢
  have hl : lv_has ls 4 [(0, .ref (b 0)), (1, .int p0), (2, .int p1)] := hl
  unfold wX9_ofFace at h
  show W p l e rmX9_ofFace s m #[.ref (b 0), .int p0, .int p1] below meth c s.heap [] 0 0 _ _
  refine lv_aload_n hx hb dX9_ofFace_0 rfl (lv_at hl 0 rfl) ?_
  refine va_get (D := G.1) (ci := 9) (v := .ref (a 0)) (C := RX9) (T := TX9) (N := 5) hx hb hts iX9_ofFace_X9 hown hKn.k hP 18 rfl rfl 0 (by decide) (hts _ lX9_ofFace_f10) (fun _ h9 => h9) rfl dX9_ofFace_1 ?_
  refine va_get (D := G.1) (ci := 6) (v := .ref (a 13)) (C := RX6) (T := TX6) (N := 10) hx hb hts iX9_ofFace_X6 hown hKn.k hP 0 rfl rfl 1 (by decide) (hts _ lX9_ofFace_f52) (fun _ h9 => h9) rfl dX9_ofFace_4 ?_
  refine lv_astore_n (lv' := [(3, .ref (a 13)), (0, .ref (b 0)), (1, .int p0), (2, .int p1)]) hx hb dX9_ofFace_7 rfl hl (by decide) rfl (fun ls hl => ?_)
  refine lv_aload_n hx hb dX9_ofFace_8 rfl (lv_at hl 0 rfl) ?_
  refine lv_iload_n hx hb dX9_ofFace_9 rfl (lv_at hl 2 rfl) ?_
  refine qc_vi (As := [.int p0]) (rest := []) ⟨hx, hb, hml, hown, hts⟩ (mX3_has l G _ _ a q _ p0) (cwV 1 hts gX9_ofFace_X3_has rfl rfl rfl (by decide +kernel) ⟨Nat.le_of_ble_eq_true rfl, Nat.le_of_ble_eq_true rfl⟩) hP hD hS hA hKn 2 3 rfl rfl rfl h rfl hl.1 rfl (Nat.le_of_ble_eq_true rfl) dX9_ofFace_10 ⟨Nat.zero_le _, Nat.zero_le _⟩ (fun r1 q2 H locs h hP hD hS => ?_)
  have hP : va_P G.1 vwCl (wQ G a q2 ++ (wO G a b ae g az o ++ (wD G g d ++ (wQ G ae tq ++ (wZ G az zs ++ R))))) H := hP
  have hD : va_D A (wQ G a q2 ++ (wO G a b ae g az o ++ (wD G g d ++ (wQ G ae tq ++ (wZ G az zs ++ R))))) := hD
  refine lv_if_ne (tgt := 18) hx hb dX9_ofFace_13 (by decide) (fun c1 => ?_) (fun c1 => ?_)
  · have h := h.1 c1
    refine lv_iload_n hx hb dX9_ofFace_18 rfl (lv_at hl 3 rfl) ?_
    by_cases c0 : p1 = (0 : Int32)
    · refine lv_tableIn (tgt := 52) hx hb dX9_ofFace_19 (by rw [c0]; decide) (by rw [c0]; decide) (by rw [c0]; rfl) (by decide) ?_
      have h := (h.1) c0
      refine lv_aload_n hx hb dX9_ofFace_52 rfl (lv_at hl 0 rfl) ?_
      refine va_get (D := G.1) (ci := 3) (v := .ref (a 2)) (C := RX3) (T := TX3) (N := 5) hx hb hts iX9_ofFace_X3 hown hKn.k hP 2 rfl rfl 0 (by decide) (hts _ lX9_ofFace_f91) (fun _ h9 => h9) rfl dX9_ofFace_53 ?_
      refine lv_iload_n hx hb dX9_ofFace_56 rfl (lv_at hl 2 rfl) ?_
      obtain ⟨hin, h⟩ := h
      refine va_iald hx hb hKn.k hP 3 0 rfl rfl hin dX9_ofFace_57 ?_
      exact hret _ _ _ _ _ _ _ _ _ _ h hP hD hS dX9_ofFace_58
    · skip
      by_cases c1 : p1 = (1 : Int32)
      · refine lv_tableIn (tgt := 59) hx hb dX9_ofFace_19 (by rw [c1]; decide) (by rw [c1]; decide) (by rw [c1]; rfl) (by decide) ?_
        have h := (h.2.1) c1
        refine lv_aload_n hx hb dX9_ofFace_59 rfl (lv_at hl 0 rfl) ?_
        refine va_get (D := G.1) (ci := 3) (v := .ref (a 4)) (C := RX3) (T := TX3) (N := 5) hx hb hts iX9_ofFace_X3 hown hKn.k hP 2 rfl rfl 2 (by decide) (hts _ lX9_ofFace_f95) (fun _ h9 => h9) rfl dX9_ofFace_60 ?_
        refine lv_iload_n hx hb dX9_ofFace_63 rfl (lv_at hl 2 rfl) ?_
        obtain ⟨hin, h⟩ := h
        refine va_iald hx hb hKn.k hP 5 0 rfl rfl hin dX9_ofFace_64 ?_
        exact hret _ _ _ _ _ _ _ _ _ _ h hP hD hS dX9_ofFace_65
      · skip
        by_cases c2 : p1 = (2 : Int32)
        · refine lv_tableIn (tgt := 66) hx hb dX9_ofFace_19 (by rw [c2]; decide) (by rw [c2]; decide) (by rw [c2]; rfl) (by decide) ?_
          have h := (h.2.2.1) c2
          refine lv_aload_n hx hb dX9_ofFace_66 rfl (lv_at hl 0 rfl) ?_
          refine va_get (D := G.1) (ci := 3) (v := .ref (a 5)) (C := RX3) (T := TX3) (N := 5) hx hb hts iX9_ofFace_X3 hown hKn.k hP 2 rfl rfl 3 (by decide) (hts _ lX9_ofFace_f98) (fun _ h9 => h9) rfl dX9_ofFace_67 ?_
          refine lv_iload_n hx hb dX9_ofFace_70 rfl (lv_at hl 2 rfl) ?_
          obtain ⟨hin, h⟩ := h
          refine va_iald hx hb hKn.k hP 6 0 rfl rfl hin dX9_ofFace_71 ?_
          exact hret _ _ _ _ _ _ _ _ _ _ h hP hD hS dX9_ofFace_72
        · skip
          by_cases c3 : p1 = (3 : Int32)
          · refine lv_tableIn (tgt := 73) hx hb dX9_ofFace_19 (by rw [c3]; decide) (by rw [c3]; decide) (by rw [c3]; rfl) (by decide) ?_
            have h := (h.2.2.2.1) c3
            refine lv_aload_n hx hb dX9_ofFace_73 rfl (lv_at hl 1 rfl) ?_
            refine va_get (D := G.1) (ci := 9) (v := .ref (a 0)) (C := RX9) (T := TX9) (N := 5) hx hb hts iX9_ofFace_X9 hown hKn.k hP 18 rfl rfl 0 (by decide) (hts _ lX9_ofFace_f10) (fun _ h9 => h9) rfl dX9_ofFace_74 ?_
            refine va_get (D := G.1) (ci := 6) (v := .ref (a 14)) (C := RX6) (T := TX6) (N := 10) hx hb hts iX9_ofFace_X6 hown hKn.k hP 0 rfl rfl 2 (by decide) (hts _ lX9_ofFace_f101) (fun _ h9 => h9) rfl dX9_ofFace_77 ?_
            refine lv_iload_n hx hb dX9_ofFace_80 rfl (lv_at hl 2 rfl) ?_
            refine qc_vi (As := [.int p0]) (rest := []) ⟨hx, hb, hml, hown, hts⟩ (mX8_awayFrom l G _ _ a q2 _ p0) (cwV 1 hts gX9_ofFace_X8_awayFrom rfl rfl rfl (by decide +kernel) ⟨Nat.le_of_ble_eq_true rfl, Nat.le_of_ble_eq_true rfl⟩) hP hD hS hA hKn 7 8 rfl rfl rfl h rfl hl.1 rfl (Nat.le_of_ble_eq_true rfl) dX9_ofFace_81 ⟨Nat.zero_le _, Nat.zero_le _⟩ (fun r3 q4 H locs h hP hD hS => ?_)
            have hP : va_P G.1 vwCl (wQ G a q4 ++ (wO G a b ae g az o ++ (wD G g d ++ (wQ G ae tq ++ (wZ G az zs ++ R))))) H := hP
            have hD : va_D A (wQ G a q4 ++ (wO G a b ae g az o ++ (wD G g d ++ (wQ G ae tq ++ (wZ G az zs ++ R))))) := hD
            exact hret _ _ _ _ _ _ _ _ _ _ h hP hD hS dX9_ofFace_84
          · skip
            by_cases c4 : p1 = (4 : Int32)
            · refine lv_tableIn (tgt := 85) hx hb dX9_ofFace_19 (by rw [c4]; decide) (by rw [c4]; decide) (by rw [c4]; rfl) (by decide) ?_
              have h := (h.2.2.2.2.1) c4
              refine lv_aload_n hx hb dX9_ofFace_85 rfl (lv_at hl 0 rfl) ?_
              refine va_get (D := G.1) (ci := 3) (v := .ref (a 3)) (C := RX3) (T := TX3) (N := 5) hx hb hts iX9_ofFace_X3 hown hKn.k hP 2 rfl rfl 1 (by decide) (hts _ lX9_ofFace_f110) (fun _ h9 => h9) rfl dX9_ofFace_86 ?_
              refine lv_iload_n hx hb dX9_ofFace_89 rfl (lv_at hl 2 rfl) ?_
              obtain ⟨hin, h⟩ := h
              refine va_iald hx hb hKn.k hP 4 0 rfl rfl hin dX9_ofFace_90 ?_
              exact hret _ _ _ _ _ _ _ _ _ _ h hP hD hS dX9_ofFace_91
            · skip
              refine lv_tableOut (tgt := 92) hx hb dX9_ofFace_19 (by have gc0 : ¬ (p1).toInt = 0 := q_ti _ (0) c0; have gc1 : ¬ (p1).toInt = 1 := q_ti _ (1) c1; have gc2 : ¬ (p1).toInt = 2 := q_ti _ (2) c2; have gc3 : ¬ (p1).toInt = 3 := q_ti _ (3) c3; have gc4 : ¬ (p1).toInt = 4 := q_ti _ (4) c4; omega) (by decide) ?_
              have h := h.2.2.2.2.2 c0 c1 c2 c3 c4
              refine lv_bipush (v := (-2 : Int32)) hx hb dX9_ofFace_92 (by decide) ?_
              exact hret _ _ _ _ _ _ _ _ _ _ h hP hD hS dX9_ofFace_94
  · have h := h.2 c1
    refine lv_iconst (v := (-1 : Int32)) hx hb dX9_ofFace_16 (by decide) ?_
    exact hret _ _ _ _ _ _ _ _ _ _ h hP hD hS dX9_ofFace_17
abbrev rmX9_truck : Room := { frames := 2, cells := 0, slots := 0, locals := 43 }
theorem lX9_truck_f10 : Cond.fieldLink RX9 10 "QuarryBlends" "now" "LQuarryBlends$Quarry;" ∈ wsX9_truck := by decide +kernel
theorem lX9_truck_f101 : Cond.fieldLink RX9 101 "QuarryBlends$Quarry" "trucks" "LQuarryBlends$Trucks;" ∈ wsX9_truck := by decide +kernel
theorem lX9_truck_f113 : Cond.fieldLink RX9 113 "QuarryBlends$Quarry" "settings" "[I" ∈ wsX9_truck := by decide +kernel
theorem lX9_truck_f123 : Cond.fieldLink RX9 123 "QuarryBlends$Trucks" "from" "[I" ∈ wsX9_truck := by decide +kernel
theorem lX9_truck_f126 : Cond.fieldLink RX9 126 "QuarryBlends$Trucks" "load" "[I" ∈ wsX9_truck := by decide +kernel
theorem lX9_truck_f129 : Cond.fieldLink RX9 129 "QuarryBlends$Trucks" "back" "[I" ∈ wsX9_truck := by decide +kernel
theorem lX9_truck_f132 : Cond.fieldLink RX9 132 "QuarryBlends$Trucks" "sent" "[I" ∈ wsX9_truck := by decide +kernel
theorem iX9_truck_X6 : ∀ w ∈ wsX60, w ∈ wsX9_truck := by decide +kernel
theorem iX9_truck_X8 : ∀ w ∈ wsX80, w ∈ wsX9_truck := by decide +kernel
theorem iX9_truck_X9 : ∀ w ∈ wsX90, w ∈ wsX9_truck := by decide +kernel
set_option maxHeartbeats 4000000 in
set_option maxRecDepth 100000 in
theorem kX9_truck_b29 {p : Program} {l : Launch} {e : Env} {s : State} {m : MethodId} {args : Array Value} {below : List Frame} {meth : Method} {c : Code} {G : qG} {A : Nat → Prop} {Qf : State → Prop} {R : va_W} {a : Nat → Nat} {b : Nat → Nat} {g : Nat → Nat} {ae : Nat → Nat} {az : Nat → Nat → Nat} {k : Int32 → qS → qS → qS → qS → (Nat → qS) → Prop} (hx : p.tables.exec = Jvm.exec) (hb : c.code = cX9_truck) (hml : c.maxLocals = 5) (hown : s.vm.findClass RX9 = some m.cls) (hts : ∀ w ∈ wsX9_truck, w.before args s = true) (hA : ∀ q : Nat, s.heap.size ≤ q → A q) (hKn : qKn G A s s.heap) (hret : ∀ (r : Int32) (q : qS) (o : qS) (d : qS) (tq : qS) (zs : (Nat → qS)) (H : Heap) (locs : List Loc) (ls : Array Slot) (pc : Nat), k r q o d tq zs → va_P G.1 vwCl (wQ G a q ++ (wO G a b ae g az o ++ (wD G g d ++ (wQ G ae tq ++ (wZ G az zs ++ R))))) H → va_D A (wQ G a q ++ (wO G a b ae g az o ++ (wD G g d ++ (wQ G ae tq ++ (wZ G az zs ++ R))))) → va_S A s.heap H locs → decode cX9_truck pc = .ok (.ireturn, 1) → W p l e rmX9_truck s m args below meth c H locs 0 0 Qf (F0 m pc ls [.int r])) : ∀ (q : qS) (o : qS) (d : qS) (tq : qS) (zs : (Nat → qS)) (H : Heap) (locs : List Loc) (ls : Array Slot), wX9_truck_b29 k q o d tq zs → va_P G.1 vwCl (wQ G a q ++ (wO G a b ae g az o ++ (wD G g d ++ (wQ G ae tq ++ (wZ G az zs ++ R))))) H → va_D A (wQ G a q ++ (wO G a b ae g az o ++ (wD G g d ++ (wQ G ae tq ++ (wZ G az zs ++ R))))) → va_S A s.heap H locs → lv_has ls 5 [] → W p l e rmX9_truck s m args below meth c H locs 0 0 Qf (F0 m 29 ls []) := by
  intro q o d tq zs H locs ls h hP hD hS hl
  unfold wX9_truck_b29 at h
  refine lv_iconst (v := (-1 : Int32)) hx hb dX9_truck_29 (by decide) ?_
  exact hret _ _ _ _ _ _ _ _ _ _ h hP hD hS dX9_truck_30
set_option maxHeartbeats 4000000 in
set_option maxRecDepth 100000 in
theorem kX9_truck_b92 {p : Program} {l : Launch} {e : Env} {s : State} {m : MethodId} {args : Array Value} {below : List Frame} {meth : Method} {c : Code} {G : qG} {A : Nat → Prop} {Qf : State → Prop} {R : va_W} {a : Nat → Nat} {b : Nat → Nat} {g : Nat → Nat} {ae : Nat → Nat} {az : Nat → Nat → Nat} {k : Int32 → qS → qS → qS → qS → (Nat → qS) → Prop} (hx : p.tables.exec = Jvm.exec) (hb : c.code = cX9_truck) (hml : c.maxLocals = 5) (hown : s.vm.findClass RX9 = some m.cls) (hts : ∀ w ∈ wsX9_truck, w.before args s = true) (hA : ∀ q : Nat, s.heap.size ≤ q → A q) (hKn : qKn G A s s.heap) (hret : ∀ (r : Int32) (q : qS) (o : qS) (d : qS) (tq : qS) (zs : (Nat → qS)) (H : Heap) (locs : List Loc) (ls : Array Slot) (pc : Nat), k r q o d tq zs → va_P G.1 vwCl (wQ G a q ++ (wO G a b ae g az o ++ (wD G g d ++ (wQ G ae tq ++ (wZ G az zs ++ R))))) H → va_D A (wQ G a q ++ (wO G a b ae g az o ++ (wD G g d ++ (wQ G ae tq ++ (wZ G az zs ++ R))))) → va_S A s.heap H locs → decode cX9_truck pc = .ok (.ireturn, 1) → W p l e rmX9_truck s m args below meth c H locs 0 0 Qf (F0 m pc ls [.int r])) : ∀ (q : qS) (o : qS) (d : qS) (tq : qS) (zs : (Nat → qS)) (z0 : Int32) (H : Heap) (locs : List Loc) (ls : Array Slot), wX9_truck_b92 k q o d tq zs z0 → va_P G.1 vwCl (wQ G a q ++ (wO G a b ae g az o ++ (wD G g d ++ (wQ G ae tq ++ (wZ G az zs ++ R))))) H → va_D A (wQ G a q ++ (wO G a b ae g az o ++ (wD G g d ++ (wQ G ae tq ++ (wZ G az zs ++ R))))) → va_S A s.heap H locs → lv_has ls 5 [] → W p l e rmX9_truck s m args below meth c H locs 0 0 Qf (F0 m 92 ls [.int z0]) := by
  intro q o d tq zs z0 H locs ls h hP hD hS hl
  unfold wX9_truck_b92 at h
  exact hret _ _ _ _ _ _ _ _ _ _ h hP hD hS dX9_truck_92
set_option maxHeartbeats 4000000 in
set_option maxRecDepth 100000 in
theorem kX9_truck_b109 {p : Program} {l : Launch} {e : Env} {s : State} {m : MethodId} {args : Array Value} {below : List Frame} {meth : Method} {c : Code} {G : qG} {A : Nat → Prop} {Qf : State → Prop} {R : va_W} {a : Nat → Nat} {b : Nat → Nat} {g : Nat → Nat} {ae : Nat → Nat} {az : Nat → Nat → Nat} {k : Int32 → qS → qS → qS → qS → (Nat → qS) → Prop} (hx : p.tables.exec = Jvm.exec) (hb : c.code = cX9_truck) (hml : c.maxLocals = 5) (hown : s.vm.findClass RX9 = some m.cls) (hts : ∀ w ∈ wsX9_truck, w.before args s = true) (hA : ∀ q : Nat, s.heap.size ≤ q → A q) (hKn : qKn G A s s.heap) (hret : ∀ (r : Int32) (q : qS) (o : qS) (d : qS) (tq : qS) (zs : (Nat → qS)) (H : Heap) (locs : List Loc) (ls : Array Slot) (pc : Nat), k r q o d tq zs → va_P G.1 vwCl (wQ G a q ++ (wO G a b ae g az o ++ (wD G g d ++ (wQ G ae tq ++ (wZ G az zs ++ R))))) H → va_D A (wQ G a q ++ (wO G a b ae g az o ++ (wD G g d ++ (wQ G ae tq ++ (wZ G az zs ++ R))))) → va_S A s.heap H locs → decode cX9_truck pc = .ok (.ireturn, 1) → W p l e rmX9_truck s m args below meth c H locs 0 0 Qf (F0 m pc ls [.int r])) : ∀ (q : qS) (o : qS) (d : qS) (tq : qS) (zs : (Nat → qS)) (z0 : Int32) (H : Heap) (locs : List Loc) (ls : Array Slot), wX9_truck_b109 k q o d tq zs z0 → va_P G.1 vwCl (wQ G a q ++ (wO G a b ae g az o ++ (wD G g d ++ (wQ G ae tq ++ (wZ G az zs ++ R))))) H → va_D A (wQ G a q ++ (wO G a b ae g az o ++ (wD G g d ++ (wQ G ae tq ++ (wZ G az zs ++ R))))) → va_S A s.heap H locs → lv_has ls 5 [] → W p l e rmX9_truck s m args below meth c H locs 0 0 Qf (F0 m 109 ls [.int z0]) := by
  intro q o d tq zs z0 H locs ls h hP hD hS hl
  unfold wX9_truck_b109 at h
  exact hret _ _ _ _ _ _ _ _ _ _ h hP hD hS dX9_truck_109
set_option maxHeartbeats 4000000 in
set_option maxRecDepth 100000 in
theorem kX9_truck_b126 {p : Program} {l : Launch} {e : Env} {s : State} {m : MethodId} {args : Array Value} {below : List Frame} {meth : Method} {c : Code} {G : qG} {A : Nat → Prop} {Qf : State → Prop} {R : va_W} {a : Nat → Nat} {b : Nat → Nat} {g : Nat → Nat} {ae : Nat → Nat} {az : Nat → Nat → Nat} {k : Int32 → qS → qS → qS → qS → (Nat → qS) → Prop} (hx : p.tables.exec = Jvm.exec) (hb : c.code = cX9_truck) (hml : c.maxLocals = 5) (hown : s.vm.findClass RX9 = some m.cls) (hts : ∀ w ∈ wsX9_truck, w.before args s = true) (hA : ∀ q : Nat, s.heap.size ≤ q → A q) (hKn : qKn G A s s.heap) (hret : ∀ (r : Int32) (q : qS) (o : qS) (d : qS) (tq : qS) (zs : (Nat → qS)) (H : Heap) (locs : List Loc) (ls : Array Slot) (pc : Nat), k r q o d tq zs → va_P G.1 vwCl (wQ G a q ++ (wO G a b ae g az o ++ (wD G g d ++ (wQ G ae tq ++ (wZ G az zs ++ R))))) H → va_D A (wQ G a q ++ (wO G a b ae g az o ++ (wD G g d ++ (wQ G ae tq ++ (wZ G az zs ++ R))))) → va_S A s.heap H locs → decode cX9_truck pc = .ok (.ireturn, 1) → W p l e rmX9_truck s m args below meth c H locs 0 0 Qf (F0 m pc ls [.int r])) : ∀ (q : qS) (o : qS) (d : qS) (tq : qS) (zs : (Nat → qS)) (z0 : Int32) (H : Heap) (locs : List Loc) (ls : Array Slot), wX9_truck_b126 k q o d tq zs z0 → va_P G.1 vwCl (wQ G a q ++ (wO G a b ae g az o ++ (wD G g d ++ (wQ G ae tq ++ (wZ G az zs ++ R))))) H → va_D A (wQ G a q ++ (wO G a b ae g az o ++ (wD G g d ++ (wQ G ae tq ++ (wZ G az zs ++ R))))) → va_S A s.heap H locs → lv_has ls 5 [] → W p l e rmX9_truck s m args below meth c H locs 0 0 Qf (F0 m 126 ls [.int z0]) := by
  intro q o d tq zs z0 H locs ls h hP hD hS hl
  unfold wX9_truck_b126 at h
  exact hret _ _ _ _ _ _ _ _ _ _ h hP hD hS dX9_truck_126
set_option maxHeartbeats 4000000 in
set_option maxRecDepth 100000 in
theorem mX9_truck (l : Launch) (G : qG) (k : Int32 → qS → qS → qS → qS → (Nat → qS) → Prop) (R : va_W) (a : Nat → Nat) (b : Nat → Nat) (g : Nat → Nat) (ae : Nat → Nat) (az : Nat → Nat → Nat) (q : qS) (o : qS) (d : qS) (tq : qS) (zs : (Nat → qS)) (sz : Nat) (p0 : Int32) (p1 : Int32) : Met l yX9_truck wsX9_truck rmX9_truck (qPc G [.ref (b 0), .int p0, .int p1] (wQ G a q ++ (wO G a b ae g az o ++ (wD G g d ++ (wQ G ae tq ++ (wZ G az zs ++ R))))) sz (wX9_truck k q o d tq zs p0 p1)) (qQi G (wQ G a q ++ (wO G a b ae g az o ++ (wD G g d ++ (wQ G ae tq ++ (wZ G az zs ++ R))))) sz (fun (r : Int32) (u : qS × qS × qS × qS × (Nat → qS)) => k r u.1 u.2.1 u.2.2.1 u.2.2.2.1 u.2.2.2.2) (fun (u : qS × qS × qS × qS × (Nat → qS)) => wQ G a u.1 ++ (wO G a b ae g az u.2.1 ++ (wD G g u.2.2.1 ++ (wQ G ae u.2.2.2.1 ++ (wZ G az u.2.2.2.2 ++ R)))))) 0 0 (va_A (wQ G a q ++ (wO G a b ae g az o ++ (wD G g d ++ (wQ G ae tq ++ (wZ G az zs ++ R))))) sz) := by
  refine Met.ofW (cc := cX9_truck) (maxL := 5) (ret := (some .int)) (by decide) rfl ?_
  intro p e s m args below meth c s₁ B hml hv
  obtain ⟨rfl, hsz, hP, hD0, hKn0, h⟩ := hv
  have hx := B.exec
  have hb := B.bytes
  have hr := B.returns
  have hts := atoms_spec (ws := wsX9_truck) B.pre
  have hown : s.vm.findClass RX9 = some m.cls := findClass_of_methodNamed B.named
  have hlocks := B.notSynchronized
  subst hsz
  have hD := hD0.self (sz := s.heap.size)
  generalize hAe : va_A (wQ G a q ++ (wO G a b ae g az o ++ (wD G g d ++ (wQ G ae tq ++ (wZ G az zs ++ R))))) s.heap.size = A at hD hKn0 ⊢
  have hA : ∀ q : Nat, s.heap.size ≤ q → A q := fun q h => by rw [← hAe]; exact Or.inr h
  have hKn : qKn G A s s.heap := hKn0
  have hS : va_S A s.heap s.heap [] := va_S.rf
  have hret : ∀ (r : Int32) (q' : qS) (o' : qS) (d' : qS) (tq' : qS) (zs' : (Nat → qS)) (H : Heap) (locs : List Loc) (ls : Array Slot) (pc : Nat), k r q' o' d' tq' zs' → va_P G.1 vwCl (wQ G a q' ++ (wO G a b ae g az o' ++ (wD G g d' ++ (wQ G ae tq' ++ (wZ G az zs' ++ R))))) H → va_D A (wQ G a q' ++ (wO G a b ae g az o' ++ (wD G g d' ++ (wQ G ae tq' ++ (wZ G az zs' ++ R))))) → va_S A s.heap H locs → decode cX9_truck pc = .ok (.ireturn, 1) → W p l e rmX9_truck s m #[.ref (b 0), .int p0, .int p1] below meth c H locs 0 0 (MQ below (qQi G (wQ G a q ++ (wO G a b ae g az o ++ (wD G g d ++ (wQ G ae tq ++ (wZ G az zs ++ R))))) s.heap.size (fun (r : Int32) (u : qS × qS × qS × qS × (Nat → qS)) => k r u.1 u.2.1 u.2.2.1 u.2.2.2.1 u.2.2.2.2) (fun (u : qS × qS × qS × qS × (Nat → qS)) => wQ G a u.1 ++ (wO G a b ae g az u.2.1 ++ (wD G g u.2.2.1 ++ (wQ G ae u.2.2.2.1 ++ (wZ G az u.2.2.2.2 ++ R)))))) #[.ref (b 0), .int p0, .int p1] s 0 0 A) (F0 m pc ls [.int r]) := fun r q' o' d' tq' zs' H locs ls pc hk hP hD hS hd => W.iret hx hb hr (fun t ht hW => q_ri (u := (⟨q', o', d', tq', zs'⟩ : qS × qS × qS × qS × (Nat → qS))) hAe hk hP hD hS ht) hS.2.2 hd
  have hl := lv_entry ([.ref (b 0), .int p0, .int p1]) (n := 5) (Nat.le_of_ble_eq_true rfl)
  rw [lg_entry_eq]
  generalize (lg_sl ([.ref (b 0), .int p0, .int p1]) ++ List.replicate (5 - (lg_sl ([.ref (b 0), .int p0, .int p1])).length) Slot.unset).toArray = ls at hl ⊢
  have hl : lv_has ls 5 [(0, .ref (b 0)), (1, .int p0), (2, .int p1)] := hl
  unfold wX9_truck at h
  show W p l e rmX9_truck s m #[.ref (b 0), .int p0, .int p1] below meth c s.heap [] 0 0 _ _
  refine lv_iload_n hx hb dX9_truck_0 rfl (lv_at hl 1 rfl) ?_
  refine lv_iconst (v := (0 : Int32)) hx hb dX9_truck_1 (by decide) ?_
  refine lv_aload_n hx hb dX9_truck_2 rfl (lv_at hl 0 rfl) ?_
  refine va_get (D := G.1) (ci := 9) (v := .ref (a 0)) (C := RX9) (T := TX9) (N := 5) hx hb hts iX9_truck_X9 hown hKn.k hP 18 rfl rfl 0 (by decide) (hts _ lX9_truck_f10) (fun _ h9 => h9) rfl dX9_truck_3 ?_
  refine va_get (D := G.1) (ci := 6) (v := .ref (a 1)) (C := RX6) (T := TX6) (N := 10) hx hb hts iX9_truck_X6 hown hKn.k hP 0 rfl rfl 0 (by decide) (hts _ lX9_truck_f113) (fun _ h9 => h9) rfl dX9_truck_6 ?_
  refine lv_iconst (v := (0 : Int32)) hx hb dX9_truck_9 (by decide) ?_
  refine va_iald hx hb hKn.k hP 1 0 rfl rfl (by unfold vp_in; decide) dX9_truck_10 ?_
  refine lv_iconst (v := (1 : Int32)) hx hb dX9_truck_11 (by decide) ?_
  refine lv_isub hx hb dX9_truck_12 ?_
  refine qc_si (As := [.int p0, .int (0 : Int32), .int ((q 1 0) - (1 : Int32))]) (rest := []) ⟨hx, hb, hml, hown, hts⟩ (mX9_within l G _ _ _ p0 (0 : Int32) ((q 1 0) - (1 : Int32))) (cwS 3 hts gX9_truck_X9_within rfl rfl rfl (by decide +kernel) ⟨Nat.le_of_ble_eq_true rfl, Nat.le_of_ble_eq_true rfl⟩) hP hD hS hA hKn h rfl hl.1 rfl (Nat.le_of_ble_eq_true rfl) dX9_truck_13 ⟨Nat.zero_le _, Nat.zero_le _⟩ (fun r1 _ H locs h hP hD hS => ?_)
  have hP : va_P G.1 vwCl (wQ G a q ++ (wO G a b ae g az o ++ (wD G g d ++ (wQ G ae tq ++ (wZ G az zs ++ R))))) H := hP
  have hD : va_D A (wQ G a q ++ (wO G a b ae g az o ++ (wD G g d ++ (wQ G ae tq ++ (wZ G az zs ++ R))))) := hD
  refine lv_if_eq (tgt := 29) hx hb dX9_truck_16 (by decide) (fun c1 => ?_) (fun c1 => ?_)
  · have h := h.1 c1
    exact kX9_truck_b29 hx hb hml hown hts hA hKn hret q o d tq zs _ _ _ h hP hD hS (lv_sub hl [] rfl)
  · have h := h.2 c1
    refine lv_iload_n hx hb dX9_truck_19 rfl (lv_at hl 1 rfl) ?_
    refine lv_iconst (v := (0 : Int32)) hx hb dX9_truck_20 (by decide) ?_
    refine lv_bipush (v := (19 : Int32)) hx hb dX9_truck_21 (by decide) ?_
    refine qc_si (As := [.int p0, .int (0 : Int32), .int (19 : Int32)]) (rest := []) ⟨hx, hb, hml, hown, hts⟩ (mX9_within l G _ _ _ p0 (0 : Int32) (19 : Int32)) (cwS 3 hts gX9_truck_X9_within rfl rfl rfl (by decide +kernel) ⟨Nat.le_of_ble_eq_true rfl, Nat.le_of_ble_eq_true rfl⟩) hP hD hS hA hKn h rfl hl.1 rfl (Nat.le_of_ble_eq_true rfl) dX9_truck_23 ⟨Nat.zero_le _, Nat.zero_le _⟩ (fun r2 _ H locs h hP hD hS => ?_)
    have hP : va_P G.1 vwCl (wQ G a q ++ (wO G a b ae g az o ++ (wD G g d ++ (wQ G ae tq ++ (wZ G az zs ++ R))))) H := hP
    have hD : va_D A (wQ G a q ++ (wO G a b ae g az o ++ (wD G g d ++ (wQ G ae tq ++ (wZ G az zs ++ R))))) := hD
    refine lv_if_ne (tgt := 31) hx hb dX9_truck_26 (by decide) (fun c1 => ?_) (fun c1 => ?_)
    · have h := h.1 c1
      refine lv_aload_n hx hb dX9_truck_31 rfl (lv_at hl 0 rfl) ?_
      refine va_get (D := G.1) (ci := 9) (v := .ref (a 0)) (C := RX9) (T := TX9) (N := 5) hx hb hts iX9_truck_X9 hown hKn.k hP 18 rfl rfl 0 (by decide) (hts _ lX9_truck_f10) (fun _ h9 => h9) rfl dX9_truck_32 ?_
      refine va_get (D := G.1) (ci := 6) (v := .ref (a 14)) (C := RX6) (T := TX6) (N := 10) hx hb hts iX9_truck_X6 hown hKn.k hP 0 rfl rfl 2 (by decide) (hts _ lX9_truck_f101) (fun _ h9 => h9) rfl dX9_truck_35 ?_
      refine lv_astore_n (lv' := [(3, .ref (a 14)), (0, .ref (b 0)), (1, .int p0), (2, .int p1)]) hx hb dX9_truck_38 rfl hl (by decide) rfl (fun ls hl => ?_)
      refine lv_aload_n hx hb dX9_truck_39 rfl (lv_at hl 0 rfl) ?_
      refine lv_iload_n hx hb dX9_truck_40 rfl (lv_at hl 2 rfl) ?_
      refine qc_vi (As := [.int p0]) (rest := []) ⟨hx, hb, hml, hown, hts⟩ (mX8_isAway l G _ _ a q _ p0) (cwV 1 hts gX9_truck_X8_isAway rfl rfl rfl (by decide +kernel) ⟨Nat.le_of_ble_eq_true rfl, Nat.le_of_ble_eq_true rfl⟩) hP hD hS hA hKn 7 8 rfl rfl rfl h rfl hl.1 rfl (Nat.le_of_ble_eq_true rfl) dX9_truck_41 ⟨Nat.zero_le _, Nat.zero_le _⟩ (fun r3 q4 H locs h hP hD hS => ?_)
      have hP : va_P G.1 vwCl (wQ G a q4 ++ (wO G a b ae g az o ++ (wD G g d ++ (wQ G ae tq ++ (wZ G az zs ++ R))))) H := hP
      have hD : va_D A (wQ G a q4 ++ (wO G a b ae g az o ++ (wD G g d ++ (wQ G ae tq ++ (wZ G az zs ++ R))))) := hD
      refine lv_istore (lv' := [(4, .int r3), (3, .ref (a 14)), (0, .ref (b 0)), (1, .int p0), (2, .int p1)]) hx hb dX9_truck_44 hl (by decide) rfl (fun ls hl => ?_)
      refine lv_iload_n hx hb dX9_truck_46 rfl (lv_at hl 4 rfl) ?_
      by_cases c0 : p1 = (0 : Int32)
      · refine lv_tableIn (tgt := 76) hx hb dX9_truck_47 (by rw [c0]; decide) (by rw [c0]; decide) (by rw [c0]; rfl) (by decide) ?_
        have h := (h.1) c0
        refine lv_iload hx hb dX9_truck_76 (lv_at hl 0 rfl) ?_
        refine lv_if_eq (tgt := 90) hx hb dX9_truck_78 (by decide) (fun c1 => ?_) (fun c1 => ?_)
        · have h := h.1 c1
          refine lv_bipush (v := (-6 : Int32)) hx hb dX9_truck_90 (by decide) ?_
          exact kX9_truck_b92 hx hb hml hown hts hA hKn hret q4 o d tq zs (-6 : Int32) _ _ _ h hP hD hS (lv_sub hl [] rfl)
        · have h := h.2 c1
          refine lv_aload_n hx hb dX9_truck_81 rfl (lv_at hl 1 rfl) ?_
          refine va_get (D := G.1) (ci := 8) (v := .ref (a 6)) (C := RX8) (T := TX8) (N := 4) hx hb hts iX9_truck_X8 hown hKn.k hP 7 rfl rfl 0 (by decide) (hts _ lX9_truck_f123) (fun _ h9 => h9) rfl dX9_truck_82 ?_
          refine lv_iload_n hx hb dX9_truck_85 rfl (lv_at hl 3 rfl) ?_
          obtain ⟨hin, h⟩ := h
          refine va_iald hx hb hKn.k hP 8 0 rfl rfl hin dX9_truck_86 ?_
          refine lv_goto (tgt := 92) hx hb dX9_truck_87 (by decide) ?_
          exact kX9_truck_b92 hx hb hml hown hts hA hKn hret q4 o d tq zs (q4 6 (Int32.toNatClampNeg p0)) _ _ _ h hP hD hS (lv_sub hl [] rfl)
      · skip
        by_cases c1 : p1 = (1 : Int32)
        · refine lv_tableIn (tgt := 93) hx hb dX9_truck_47 (by rw [c1]; decide) (by rw [c1]; decide) (by rw [c1]; rfl) (by decide) ?_
          have h := (h.2.1) c1
          refine lv_iload hx hb dX9_truck_93 (lv_at hl 0 rfl) ?_
          refine lv_if_eq (tgt := 107) hx hb dX9_truck_95 (by decide) (fun c1 => ?_) (fun c1 => ?_)
          · have h := h.1 c1
            refine lv_bipush (v := (-6 : Int32)) hx hb dX9_truck_107 (by decide) ?_
            exact kX9_truck_b109 hx hb hml hown hts hA hKn hret q4 o d tq zs (-6 : Int32) _ _ _ h hP hD hS (lv_sub hl [] rfl)
          · have h := h.2 c1
            refine lv_aload_n hx hb dX9_truck_98 rfl (lv_at hl 1 rfl) ?_
            refine va_get (D := G.1) (ci := 8) (v := .ref (a 7)) (C := RX8) (T := TX8) (N := 4) hx hb hts iX9_truck_X8 hown hKn.k hP 7 rfl rfl 1 (by decide) (hts _ lX9_truck_f126) (fun _ h9 => h9) rfl dX9_truck_99 ?_
            refine lv_iload_n hx hb dX9_truck_102 rfl (lv_at hl 3 rfl) ?_
            obtain ⟨hin, h⟩ := h
            refine va_iald hx hb hKn.k hP 9 0 rfl rfl hin dX9_truck_103 ?_
            refine lv_goto (tgt := 109) hx hb dX9_truck_104 (by decide) ?_
            exact kX9_truck_b109 hx hb hml hown hts hA hKn hret q4 o d tq zs (q4 7 (Int32.toNatClampNeg p0)) _ _ _ h hP hD hS (lv_sub hl [] rfl)
        · skip
          by_cases c2 : p1 = (2 : Int32)
          · refine lv_tableIn (tgt := 110) hx hb dX9_truck_47 (by rw [c2]; decide) (by rw [c2]; decide) (by rw [c2]; rfl) (by decide) ?_
            have h := (h.2.2.1) c2
            refine lv_iload hx hb dX9_truck_110 (lv_at hl 0 rfl) ?_
            refine lv_if_eq (tgt := 124) hx hb dX9_truck_112 (by decide) (fun c1 => ?_) (fun c1 => ?_)
            · have h := h.1 c1
              refine lv_bipush (v := (-6 : Int32)) hx hb dX9_truck_124 (by decide) ?_
              exact kX9_truck_b126 hx hb hml hown hts hA hKn hret q4 o d tq zs (-6 : Int32) _ _ _ h hP hD hS (lv_sub hl [] rfl)
            · have h := h.2 c1
              refine lv_aload_n hx hb dX9_truck_115 rfl (lv_at hl 1 rfl) ?_
              refine va_get (D := G.1) (ci := 8) (v := .ref (a 8)) (C := RX8) (T := TX8) (N := 4) hx hb hts iX9_truck_X8 hown hKn.k hP 7 rfl rfl 2 (by decide) (hts _ lX9_truck_f129) (fun _ h9 => h9) rfl dX9_truck_116 ?_
              refine lv_iload_n hx hb dX9_truck_119 rfl (lv_at hl 3 rfl) ?_
              obtain ⟨hin, h⟩ := h
              refine va_iald hx hb hKn.k hP 10 0 rfl rfl hin dX9_truck_120 ?_
              refine lv_goto (tgt := 126) hx hb dX9_truck_121 (by decide) ?_
              exact kX9_truck_b126 hx hb hml hown hts hA hKn hret q4 o d tq zs (q4 8 (Int32.toNatClampNeg p0)) _ _ _ h hP hD hS (lv_sub hl [] rfl)
          · skip
            by_cases c3 : p1 = (3 : Int32)
            · refine lv_tableIn (tgt := 127) hx hb dX9_truck_47 (by rw [c3]; decide) (by rw [c3]; decide) (by rw [c3]; rfl) (by decide) ?_
              have h := (h.2.2.2.1) c3
              refine lv_aload_n hx hb dX9_truck_127 rfl (lv_at hl 1 rfl) ?_
              refine va_get (D := G.1) (ci := 8) (v := .ref (a 9)) (C := RX8) (T := TX8) (N := 4) hx hb hts iX9_truck_X8 hown hKn.k hP 7 rfl rfl 3 (by decide) (hts _ lX9_truck_f132) (fun _ h9 => h9) rfl dX9_truck_128 ?_
              refine lv_iload_n hx hb dX9_truck_131 rfl (lv_at hl 3 rfl) ?_
              obtain ⟨hin, h⟩ := h
              refine va_iald hx hb hKn.k hP 11 0 rfl rfl hin dX9_truck_132 ?_
              exact hret _ _ _ _ _ _ _ _ _ _ h hP hD hS dX9_truck_133
            · skip
              refine lv_tableOut (tgt := 134) hx hb dX9_truck_47 (by have gc0 : ¬ (p1).toInt = 0 := q_ti _ (0) c0; have gc1 : ¬ (p1).toInt = 1 := q_ti _ (1) c1; have gc2 : ¬ (p1).toInt = 2 := q_ti _ (2) c2; have gc3 : ¬ (p1).toInt = 3 := q_ti _ (3) c3; omega) (by decide) ?_
              have h := h.2.2.2.2 c0 c1 c2 c3
              refine lv_bipush (v := (-2 : Int32)) hx hb dX9_truck_134 (by decide) ?_
              exact hret _ _ _ _ _ _ _ _ _ _ h hP hD hS dX9_truck_136
    · have h := h.2 c1
      exact kX9_truck_b29 hx hb hml hown hts hA hKn hret q o d tq zs _ _ _ h hP hD hS (lv_sub hl [] rfl)
abbrev rmX9_ofContract : Room := { frames := 3, cells := 0, slots := 0, locals := 67 }
theorem lX9_ofContract_f10 : Cond.fieldLink RX9 10 "QuarryBlends" "now" "LQuarryBlends$Quarry;" ∈ wsX9_ofContract := by decide +kernel
theorem lX9_ofContract_f139 : Cond.fieldLink RX9 139 "QuarryBlends$Quarry" "blend" "LQuarryBlends$Blend;" ∈ wsX9_ofContract := by decide +kernel
theorem lX9_ofContract_f143 : Cond.fieldLink RX9 143 "QuarryBlends$Crusher" "bins" "[I" ∈ wsX9_ofContract := by decide +kernel
theorem lX9_ofContract_f152 : Cond.fieldLink RX9 152 "QuarryBlends$Blend" "reason" "I" ∈ wsX9_ofContract := by decide +kernel
theorem lX9_ofContract_f156 : Cond.fieldLink RX9 156 "QuarryBlends$Blend" "fine" "I" ∈ wsX9_ofContract := by decide +kernel
theorem lX9_ofContract_f159 : Cond.fieldLink RX9 159 "QuarryBlends$Blend" "coarse" "I" ∈ wsX9_ofContract := by decide +kernel
theorem lX9_ofContract_f62 : Cond.fieldLink RX9 62 "QuarryBlends$Quarry" "contracts" "LQuarryBlends$Contracts;" ∈ wsX9_ofContract := by decide +kernel
theorem lX9_ofContract_f74 : Cond.fieldLink RX9 74 "QuarryBlends$Quarry" "crusher" "LQuarryBlends$Crusher;" ∈ wsX9_ofContract := by decide +kernel
theorem iX9_ofContract_X0 : ∀ w ∈ wsX00, w ∈ wsX9_ofContract := by decide +kernel
theorem iX9_ofContract_X2 : ∀ w ∈ wsX20, w ∈ wsX9_ofContract := by decide +kernel
theorem iX9_ofContract_X6 : ∀ w ∈ wsX60, w ∈ wsX9_ofContract := by decide +kernel
theorem iX9_ofContract_X9 : ∀ w ∈ wsX90, w ∈ wsX9_ofContract := by decide +kernel
set_option maxHeartbeats 4000000 in
set_option maxRecDepth 100000 in
theorem kX9_ofContract_b112 {p : Program} {l : Launch} {e : Env} {s : State} {m : MethodId} {args : Array Value} {below : List Frame} {meth : Method} {c : Code} {G : qG} {A : Nat → Prop} {Qf : State → Prop} {R : va_W} {a : Nat → Nat} {b : Nat → Nat} {g : Nat → Nat} {ae : Nat → Nat} {az : Nat → Nat → Nat} {k : Int32 → qS → qS → qS → qS → (Nat → qS) → Prop} (hx : p.tables.exec = Jvm.exec) (hb : c.code = cX9_ofContract) (hml : c.maxLocals = 5) (hown : s.vm.findClass RX9 = some m.cls) (hts : ∀ w ∈ wsX9_ofContract, w.before args s = true) (hA : ∀ q : Nat, s.heap.size ≤ q → A q) (hKn : qKn G A s s.heap) (hret : ∀ (r : Int32) (q : qS) (o : qS) (d : qS) (tq : qS) (zs : (Nat → qS)) (H : Heap) (locs : List Loc) (ls : Array Slot) (pc : Nat), k r q o d tq zs → va_P G.1 vwCl (wQ G a q ++ (wO G a b ae g az o ++ (wD G g d ++ (wQ G ae tq ++ (wZ G az zs ++ R))))) H → va_D A (wQ G a q ++ (wO G a b ae g az o ++ (wD G g d ++ (wQ G ae tq ++ (wZ G az zs ++ R))))) → va_S A s.heap H locs → decode cX9_ofContract pc = .ok (.ireturn, 1) → W p l e rmX9_ofContract s m args below meth c H locs 0 0 Qf (F0 m pc ls [.int r])) : ∀ (q : qS) (o : qS) (d : qS) (tq : qS) (zs : (Nat → qS)) (z0 : Int32) (H : Heap) (locs : List Loc) (ls : Array Slot), wX9_ofContract_b112 k q o d tq zs z0 → va_P G.1 vwCl (wQ G a q ++ (wO G a b ae g az o ++ (wD G g d ++ (wQ G ae tq ++ (wZ G az zs ++ R))))) H → va_D A (wQ G a q ++ (wO G a b ae g az o ++ (wD G g d ++ (wQ G ae tq ++ (wZ G az zs ++ R))))) → va_S A s.heap H locs → lv_has ls 5 [] → W p l e rmX9_ofContract s m args below meth c H locs 0 0 Qf (F0 m 112 ls [.int z0]) := by
  intro q o d tq zs z0 H locs ls h hP hD hS hl
  unfold wX9_ofContract_b112 at h
  exact hret _ _ _ _ _ _ _ _ _ _ h hP hD hS dX9_ofContract_112
set_option maxHeartbeats 4000000 in
set_option maxRecDepth 100000 in
theorem kX9_ofContract_b131 {p : Program} {l : Launch} {e : Env} {s : State} {m : MethodId} {args : Array Value} {below : List Frame} {meth : Method} {c : Code} {G : qG} {A : Nat → Prop} {Qf : State → Prop} {R : va_W} {a : Nat → Nat} {b : Nat → Nat} {g : Nat → Nat} {ae : Nat → Nat} {az : Nat → Nat → Nat} {k : Int32 → qS → qS → qS → qS → (Nat → qS) → Prop} (hx : p.tables.exec = Jvm.exec) (hb : c.code = cX9_ofContract) (hml : c.maxLocals = 5) (hown : s.vm.findClass RX9 = some m.cls) (hts : ∀ w ∈ wsX9_ofContract, w.before args s = true) (hA : ∀ q : Nat, s.heap.size ≤ q → A q) (hKn : qKn G A s s.heap) (hret : ∀ (r : Int32) (q : qS) (o : qS) (d : qS) (tq : qS) (zs : (Nat → qS)) (H : Heap) (locs : List Loc) (ls : Array Slot) (pc : Nat), k r q o d tq zs → va_P G.1 vwCl (wQ G a q ++ (wO G a b ae g az o ++ (wD G g d ++ (wQ G ae tq ++ (wZ G az zs ++ R))))) H → va_D A (wQ G a q ++ (wO G a b ae g az o ++ (wD G g d ++ (wQ G ae tq ++ (wZ G az zs ++ R))))) → va_S A s.heap H locs → decode cX9_ofContract pc = .ok (.ireturn, 1) → W p l e rmX9_ofContract s m args below meth c H locs 0 0 Qf (F0 m pc ls [.int r])) : ∀ (q : qS) (o : qS) (d : qS) (tq : qS) (zs : (Nat → qS)) (z0 : Int32) (H : Heap) (locs : List Loc) (ls : Array Slot), wX9_ofContract_b131 k q o d tq zs z0 → va_P G.1 vwCl (wQ G a q ++ (wO G a b ae g az o ++ (wD G g d ++ (wQ G ae tq ++ (wZ G az zs ++ R))))) H → va_D A (wQ G a q ++ (wO G a b ae g az o ++ (wD G g d ++ (wQ G ae tq ++ (wZ G az zs ++ R))))) → va_S A s.heap H locs → lv_has ls 5 [] → W p l e rmX9_ofContract s m args below meth c H locs 0 0 Qf (F0 m 131 ls [.int z0]) := by
  intro q o d tq zs z0 H locs ls h hP hD hS hl
  unfold wX9_ofContract_b131 at h
  exact hret _ _ _ _ _ _ _ _ _ _ h hP hD hS dX9_ofContract_131
set_option maxHeartbeats 4000000 in
set_option maxRecDepth 100000 in
theorem mX9_ofContract (l : Launch) (G : qG) (k : Int32 → qS → qS → qS → qS → (Nat → qS) → Prop) (R : va_W) (a : Nat → Nat) (b : Nat → Nat) (g : Nat → Nat) (ae : Nat → Nat) (az : Nat → Nat → Nat) (q : qS) (o : qS) (d : qS) (tq : qS) (zs : (Nat → qS)) (sz : Nat) (p0 : Int32) (p1 : Int32) : Met l yX9_ofContract wsX9_ofContract rmX9_ofContract (qPc G [.ref (b 0), .int p0, .int p1] (wQ G a q ++ (wO G a b ae g az o ++ (wD G g d ++ (wQ G ae tq ++ (wZ G az zs ++ R))))) sz (wX9_ofContract k q o d tq zs p0 p1)) (qQi G (wQ G a q ++ (wO G a b ae g az o ++ (wD G g d ++ (wQ G ae tq ++ (wZ G az zs ++ R))))) sz (fun (r : Int32) (u : qS × qS × qS × qS × (Nat → qS)) => k r u.1 u.2.1 u.2.2.1 u.2.2.2.1 u.2.2.2.2) (fun (u : qS × qS × qS × qS × (Nat → qS)) => wQ G a u.1 ++ (wO G a b ae g az u.2.1 ++ (wD G g u.2.2.1 ++ (wQ G ae u.2.2.2.1 ++ (wZ G az u.2.2.2.2 ++ R)))))) 0 0 (va_A (wQ G a q ++ (wO G a b ae g az o ++ (wD G g d ++ (wQ G ae tq ++ (wZ G az zs ++ R))))) sz) := by
  refine Met.ofW (cc := cX9_ofContract) (maxL := 5) (ret := (some .int)) (by decide) rfl ?_
  intro p e s m args below meth c s₁ B hml hv
  obtain ⟨rfl, hsz, hP, hD0, hKn0, h⟩ := hv
  have hx := B.exec
  have hb := B.bytes
  have hr := B.returns
  have hts := atoms_spec (ws := wsX9_ofContract) B.pre
  have hown : s.vm.findClass RX9 = some m.cls := findClass_of_methodNamed B.named
  have hlocks := B.notSynchronized
  subst hsz
  have hD := hD0.self (sz := s.heap.size)
  generalize hAe : va_A (wQ G a q ++ (wO G a b ae g az o ++ (wD G g d ++ (wQ G ae tq ++ (wZ G az zs ++ R))))) s.heap.size = A at hD hKn0 ⊢
  have hA : ∀ q : Nat, s.heap.size ≤ q → A q := fun q h => by rw [← hAe]; exact Or.inr h
  have hKn : qKn G A s s.heap := hKn0
  have hS : va_S A s.heap s.heap [] := va_S.rf
  have hret : ∀ (r : Int32) (q' : qS) (o' : qS) (d' : qS) (tq' : qS) (zs' : (Nat → qS)) (H : Heap) (locs : List Loc) (ls : Array Slot) (pc : Nat), k r q' o' d' tq' zs' → va_P G.1 vwCl (wQ G a q' ++ (wO G a b ae g az o' ++ (wD G g d' ++ (wQ G ae tq' ++ (wZ G az zs' ++ R))))) H → va_D A (wQ G a q' ++ (wO G a b ae g az o' ++ (wD G g d' ++ (wQ G ae tq' ++ (wZ G az zs' ++ R))))) → va_S A s.heap H locs → decode cX9_ofContract pc = .ok (.ireturn, 1) → W p l e rmX9_ofContract s m #[.ref (b 0), .int p0, .int p1] below meth c H locs 0 0 (MQ below (qQi G (wQ G a q ++ (wO G a b ae g az o ++ (wD G g d ++ (wQ G ae tq ++ (wZ G az zs ++ R))))) s.heap.size (fun (r : Int32) (u : qS × qS × qS × qS × (Nat → qS)) => k r u.1 u.2.1 u.2.2.1 u.2.2.2.1 u.2.2.2.2) (fun (u : qS × qS × qS × qS × (Nat → qS)) => wQ G a u.1 ++ (wO G a b ae g az u.2.1 ++ (wD G g u.2.2.1 ++ (wQ G ae u.2.2.2.1 ++ (wZ G az u.2.2.2.2 ++ R)))))) #[.ref (b 0), .int p0, .int p1] s 0 0 A) (F0 m pc ls [.int r]) := fun r q' o' d' tq' zs' H locs ls pc hk hP hD hS hd => W.iret hx hb hr (fun t ht hW => q_ri (u := (⟨q', o', d', tq', zs'⟩ : qS × qS × qS × qS × (Nat → qS))) hAe hk hP hD hS ht) hS.2.2 hd
  have hl := lv_entry ([.ref (b 0), .int p0, .int p1]) (n := 5) (Nat.le_of_ble_eq_true rfl)
  rw [lg_entry_eq]
  generalize (lg_sl ([.ref (b 0), .int p0, .int p1]) ++ List.replicate (5 - (lg_sl ([.ref (b 0), .int p0, .int p1])).length) Slot.unset).toArray = ls at hl ⊢
  have hl : lv_has ls 5 [(0, .ref (b 0)), (1, .int p0), (2, .int p1)] := hl
  unfold wX9_ofContract at h
  show W p l e rmX9_ofContract s m #[.ref (b 0), .int p0, .int p1] below meth c s.heap [] 0 0 _ _
  refine lv_aload_n hx hb dX9_ofContract_0 rfl (lv_at hl 0 rfl) ?_
  refine va_get (D := G.1) (ci := 9) (v := .ref (a 0)) (C := RX9) (T := TX9) (N := 5) hx hb hts iX9_ofContract_X9 hown hKn.k hP 18 rfl rfl 0 (by decide) (hts _ lX9_ofContract_f10) (fun _ h9 => h9) rfl dX9_ofContract_1 ?_
  refine va_get (D := G.1) (ci := 6) (v := .ref (a 16)) (C := RX6) (T := TX6) (N := 10) hx hb hts iX9_ofContract_X6 hown hKn.k hP 0 rfl rfl 4 (by decide) (hts _ lX9_ofContract_f62) (fun _ h9 => h9) rfl dX9_ofContract_4 ?_
  refine lv_astore_n (lv' := [(3, .ref (a 16)), (0, .ref (b 0)), (1, .int p0), (2, .int p1)]) hx hb dX9_ofContract_7 rfl hl (by decide) rfl (fun ls hl => ?_)
  refine lv_aload_n hx hb dX9_ofContract_8 rfl (lv_at hl 0 rfl) ?_
  refine lv_iload_n hx hb dX9_ofContract_9 rfl (lv_at hl 2 rfl) ?_
  refine qc_vi (As := [.int p0]) (rest := []) ⟨hx, hb, hml, hown, hts⟩ (mX1_has l G _ _ a q _ p0) (cwV 1 hts gX9_ofContract_X1_has rfl rfl rfl (by decide +kernel) ⟨Nat.le_of_ble_eq_true rfl, Nat.le_of_ble_eq_true rfl⟩) hP hD hS hA hKn 15 1 rfl rfl rfl h rfl hl.1 rfl (Nat.le_of_ble_eq_true rfl) dX9_ofContract_10 ⟨Nat.zero_le _, Nat.zero_le _⟩ (fun r1 q2 H locs h hP hD hS => ?_)
  have hP : va_P G.1 vwCl (wQ G a q2 ++ (wO G a b ae g az o ++ (wD G g d ++ (wQ G ae tq ++ (wZ G az zs ++ R))))) H := hP
  have hD : va_D A (wQ G a q2 ++ (wO G a b ae g az o ++ (wD G g d ++ (wQ G ae tq ++ (wZ G az zs ++ R))))) := hD
  refine lv_if_ne (tgt := 18) hx hb dX9_ofContract_13 (by decide) (fun c1 => ?_) (fun c1 => ?_)
  · have h := h.1 c1
    refine lv_iload_n hx hb dX9_ofContract_18 rfl (lv_at hl 3 rfl) ?_
    refine lv_iconst (v := (0 : Int32)) hx hb dX9_ofContract_19 (by decide) ?_
    refine lv_iconst (v := (5 : Int32)) hx hb dX9_ofContract_20 (by decide) ?_
    refine qc_si (As := [.int p1, .int (0 : Int32), .int (5 : Int32)]) (rest := []) ⟨hx, hb, hml, hown, hts⟩ (mX9_within l G _ _ _ p1 (0 : Int32) (5 : Int32)) (cwS 3 hts gX9_ofContract_X9_within rfl rfl rfl (by decide +kernel) ⟨Nat.le_of_ble_eq_true rfl, Nat.le_of_ble_eq_true rfl⟩) hP hD hS hA hKn h rfl hl.1 rfl (Nat.le_of_ble_eq_true rfl) dX9_ofContract_21 ⟨Nat.zero_le _, Nat.zero_le _⟩ (fun r3 _ H locs h hP hD hS => ?_)
    have hP : va_P G.1 vwCl (wQ G a q2 ++ (wO G a b ae g az o ++ (wD G g d ++ (wQ G ae tq ++ (wZ G az zs ++ R))))) H := hP
    have hD : va_D A (wQ G a q2 ++ (wO G a b ae g az o ++ (wD G g d ++ (wQ G ae tq ++ (wZ G az zs ++ R))))) := hD
    refine lv_if_eq (tgt := 34) hx hb dX9_ofContract_24 (by decide) (fun c1 => ?_) (fun c1 => ?_)
    · have h := h.1 c1
      refine lv_aload_n hx hb dX9_ofContract_34 rfl (lv_at hl 1 rfl) ?_
      refine va_get (D := G.1) (ci := 9) (v := .ref (a 0)) (C := RX9) (T := TX9) (N := 5) hx hb hts iX9_ofContract_X9 hown hKn.k hP 18 rfl rfl 0 (by decide) (hts _ lX9_ofContract_f10) (fun _ h9 => h9) rfl dX9_ofContract_35 ?_
      refine va_get (D := G.1) (ci := 6) (v := .ref (a 17)) (C := RX6) (T := TX6) (N := 10) hx hb hts iX9_ofContract_X6 hown hKn.k hP 0 rfl rfl 5 (by decide) (hts _ lX9_ofContract_f139) (fun _ h9 => h9) rfl dX9_ofContract_38 ?_
      refine lv_astore (lv' := [(4, .ref (a 17)), (3, .ref (a 16)), (0, .ref (b 0)), (1, .int p0), (2, .int p1)]) hx hb dX9_ofContract_41 hl (by decide) rfl (fun ls hl => ?_)
      refine lv_aload hx hb dX9_ofContract_43 (lv_at hl 0 rfl) ?_
      refine lv_aload_n hx hb dX9_ofContract_45 rfl (lv_at hl 1 rfl) ?_
      refine lv_iload_n hx hb dX9_ofContract_46 rfl (lv_at hl 3 rfl) ?_
      refine lv_aload_n hx hb dX9_ofContract_47 rfl (lv_at hl 2 rfl) ?_
      refine va_get (D := G.1) (ci := 9) (v := .ref (a 0)) (C := RX9) (T := TX9) (N := 5) hx hb hts iX9_ofContract_X9 hown hKn.k hP 18 rfl rfl 0 (by decide) (hts _ lX9_ofContract_f10) (fun _ h9 => h9) rfl dX9_ofContract_48 ?_
      refine va_get (D := G.1) (ci := 6) (v := .ref (a 15)) (C := RX6) (T := TX6) (N := 10) hx hb hts iX9_ofContract_X6 hown hKn.k hP 0 rfl rfl 3 (by decide) (hts _ lX9_ofContract_f74) (fun _ h9 => h9) rfl dX9_ofContract_51 ?_
      refine va_get (D := G.1) (ci := 2) (v := .ref (a 11)) (C := RX2) (T := TX2) (N := 4) hx hb hts iX9_ofContract_X2 hown hKn.k hP 12 rfl rfl 1 (by decide) (hts _ lX9_ofContract_f143) (fun _ h9 => h9) rfl dX9_ofContract_54 ?_
      refine qc_vv (As := [.ref (a 16), .int p0, .ref (a 11)]) (rest := []) ⟨hx, hb, hml, hown, hts⟩ (mX0_workOut l G _ _ a q2 _ p0) (cwV 3 hts gX9_ofContract_X0_workOut rfl rfl rfl (by decide +kernel) ⟨Nat.le_of_ble_eq_true rfl, Nat.le_of_ble_eq_true rfl⟩) hP hD hS hA hKn 17 0 rfl rfl rfl h rfl hl.1 rfl (Nat.le_of_ble_eq_true rfl) dX9_ofContract_57 ⟨Nat.zero_le _, Nat.zero_le _⟩ (fun q5 H locs h hP hD hS => ?_)
      have hP : va_P G.1 vwCl (wQ G a q5 ++ (wO G a b ae g az o ++ (wD G g d ++ (wQ G ae tq ++ (wZ G az zs ++ R))))) H := hP
      have hD : va_D A (wQ G a q5 ++ (wO G a b ae g az o ++ (wD G g d ++ (wQ G ae tq ++ (wZ G az zs ++ R))))) := hD
      refine lv_iload_n hx hb dX9_ofContract_60 rfl (lv_at hl 4 rfl) ?_
      by_cases c6 : p1 = (6 : Int32)
      · refine lv_tableIn (tgt := 88) hx hb dX9_ofContract_61 (by rw [c6]; decide) (by rw [c6]; decide) (by rw [c6]; rfl) (by decide) ?_
        have h := (h.1) c6
        refine lv_aload hx hb dX9_ofContract_88 (lv_at hl 0 rfl) ?_
        refine va_get (D := G.1) (ci := 0) (v := .int (q5 0 15)) (C := RX0) (T := TX0) (N := 8) hx hb hts iX9_ofContract_X0 hown hKn.k hP 17 rfl rfl 7 (by decide) (hts _ lX9_ofContract_f152) (fun _ h9 => h9) rfl dX9_ofContract_90 ?_
        exact hret _ _ _ _ _ _ _ _ _ _ h hP hD hS dX9_ofContract_93
      · skip
        by_cases c7 : p1 = (7 : Int32)
        · refine lv_tableIn (tgt := 94) hx hb dX9_ofContract_61 (by rw [c7]; decide) (by rw [c7]; decide) (by rw [c7]; rfl) (by decide) ?_
          have h := (h.2.1) c7
          refine lv_aload hx hb dX9_ofContract_94 (lv_at hl 0 rfl) ?_
          refine va_get (D := G.1) (ci := 0) (v := .int (q5 0 15)) (C := RX0) (T := TX0) (N := 8) hx hb hts iX9_ofContract_X0 hown hKn.k hP 17 rfl rfl 7 (by decide) (hts _ lX9_ofContract_f152) (fun _ h9 => h9) rfl dX9_ofContract_96 ?_
          refine lv_if_ne (tgt := 110) hx hb dX9_ofContract_99 (by decide) (fun c1 => ?_) (fun c1 => ?_)
          · have h := h.1 c1
            refine lv_bipush (v := (-6 : Int32)) hx hb dX9_ofContract_110 (by decide) ?_
            exact kX9_ofContract_b112 hx hb hml hown hts hA hKn hret q5 o d tq zs (-6 : Int32) _ _ _ h hP hD hS (lv_sub hl [] rfl)
          · have h := h.2 c1
            refine lv_aload hx hb dX9_ofContract_102 (lv_at hl 0 rfl) ?_
            refine va_get (D := G.1) (ci := 0) (v := .int (q5 0 13)) (C := RX0) (T := TX0) (N := 8) hx hb hts iX9_ofContract_X0 hown hKn.k hP 17 rfl rfl 5 (by decide) (hts _ lX9_ofContract_f156) (fun _ h9 => h9) rfl dX9_ofContract_104 ?_
            refine lv_goto (tgt := 112) hx hb dX9_ofContract_107 (by decide) ?_
            exact kX9_ofContract_b112 hx hb hml hown hts hA hKn hret q5 o d tq zs (q5 0 13) _ _ _ h hP hD hS (lv_sub hl [] rfl)
        · skip
          by_cases c8 : p1 = (8 : Int32)
          · refine lv_tableIn (tgt := 113) hx hb dX9_ofContract_61 (by rw [c8]; decide) (by rw [c8]; decide) (by rw [c8]; rfl) (by decide) ?_
            have h := (h.2.2.1) c8
            refine lv_aload hx hb dX9_ofContract_113 (lv_at hl 0 rfl) ?_
            refine va_get (D := G.1) (ci := 0) (v := .int (q5 0 15)) (C := RX0) (T := TX0) (N := 8) hx hb hts iX9_ofContract_X0 hown hKn.k hP 17 rfl rfl 7 (by decide) (hts _ lX9_ofContract_f152) (fun _ h9 => h9) rfl dX9_ofContract_115 ?_
            refine lv_if_ne (tgt := 129) hx hb dX9_ofContract_118 (by decide) (fun c1 => ?_) (fun c1 => ?_)
            · have h := h.1 c1
              refine lv_bipush (v := (-6 : Int32)) hx hb dX9_ofContract_129 (by decide) ?_
              exact kX9_ofContract_b131 hx hb hml hown hts hA hKn hret q5 o d tq zs (-6 : Int32) _ _ _ h hP hD hS (lv_sub hl [] rfl)
            · have h := h.2 c1
              refine lv_aload hx hb dX9_ofContract_121 (lv_at hl 0 rfl) ?_
              refine va_get (D := G.1) (ci := 0) (v := .int (q5 0 14)) (C := RX0) (T := TX0) (N := 8) hx hb hts iX9_ofContract_X0 hown hKn.k hP 17 rfl rfl 6 (by decide) (hts _ lX9_ofContract_f159) (fun _ h9 => h9) rfl dX9_ofContract_123 ?_
              refine lv_goto (tgt := 131) hx hb dX9_ofContract_126 (by decide) ?_
              exact kX9_ofContract_b131 hx hb hml hown hts hA hKn hret q5 o d tq zs (q5 0 14) _ _ _ h hP hD hS (lv_sub hl [] rfl)
          · skip
            refine lv_tableOut (tgt := 132) hx hb dX9_ofContract_61 (by have gc6 : ¬ (p1).toInt = 6 := q_ti _ (6) c6; have gc7 : ¬ (p1).toInt = 7 := q_ti _ (7) c7; have gc8 : ¬ (p1).toInt = 8 := q_ti _ (8) c8; omega) (by decide) ?_
            have h := h.2.2.2 c6 c7 c8
            refine lv_bipush (v := (-2 : Int32)) hx hb dX9_ofContract_132 (by decide) ?_
            exact hret _ _ _ _ _ _ _ _ _ _ h hP hD hS dX9_ofContract_134
    · have h := h.2 c1
      refine lv_aload_n hx hb dX9_ofContract_27 rfl (lv_at hl 0 rfl) ?_
      refine lv_iload_n hx hb dX9_ofContract_28 rfl (lv_at hl 2 rfl) ?_
      refine lv_iload_n hx hb dX9_ofContract_29 rfl (lv_at hl 3 rfl) ?_
      refine qc_vi (As := [.int p0, .int p1]) (rest := []) ⟨hx, hb, hml, hown, hts⟩ (mX1_term l G _ _ a q2 _ p0 p1) (cwV 2 hts gX9_ofContract_X1_term rfl rfl rfl (by decide +kernel) ⟨Nat.le_of_ble_eq_true rfl, Nat.le_of_ble_eq_true rfl⟩) hP hD hS hA hKn 15 1 rfl rfl rfl h rfl hl.1 rfl (Nat.le_of_ble_eq_true rfl) dX9_ofContract_30 ⟨Nat.zero_le _, Nat.zero_le _⟩ (fun r6 q7 H locs h hP hD hS => ?_)
      have hP : va_P G.1 vwCl (wQ G a q7 ++ (wO G a b ae g az o ++ (wD G g d ++ (wQ G ae tq ++ (wZ G az zs ++ R))))) H := hP
      have hD : va_D A (wQ G a q7 ++ (wO G a b ae g az o ++ (wD G g d ++ (wQ G ae tq ++ (wZ G az zs ++ R))))) := hD
      exact hret _ _ _ _ _ _ _ _ _ _ h hP hD hS dX9_ofContract_33
  · have h := h.2 c1
    refine lv_iconst (v := (-1 : Int32)) hx hb dX9_ofContract_16 (by decide) ?_
    exact hret _ _ _ _ _ _ _ _ _ _ h hP hD hS dX9_ofContract_17
abbrev rmX9_bin : Room := { frames := 1, cells := 0, slots := 0, locals := 22 }
theorem lX9_bin_f10 : Cond.fieldLink RX9 10 "QuarryBlends" "now" "LQuarryBlends$Quarry;" ∈ wsX9_bin := by decide +kernel
theorem lX9_bin_f143 : Cond.fieldLink RX9 143 "QuarryBlends$Crusher" "bins" "[I" ∈ wsX9_bin := by decide +kernel
theorem lX9_bin_f74 : Cond.fieldLink RX9 74 "QuarryBlends$Quarry" "crusher" "LQuarryBlends$Crusher;" ∈ wsX9_bin := by decide +kernel
theorem iX9_bin_X2 : ∀ w ∈ wsX20, w ∈ wsX9_bin := by decide +kernel
theorem iX9_bin_X6 : ∀ w ∈ wsX60, w ∈ wsX9_bin := by decide +kernel
theorem iX9_bin_X9 : ∀ w ∈ wsX90, w ∈ wsX9_bin := by decide +kernel
set_option maxHeartbeats 4000000 in
set_option maxRecDepth 100000 in
theorem kX9_bin_b25 {p : Program} {l : Launch} {e : Env} {s : State} {m : MethodId} {args : Array Value} {below : List Frame} {meth : Method} {c : Code} {G : qG} {A : Nat → Prop} {Qf : State → Prop} {R : va_W} {a : Nat → Nat} {b : Nat → Nat} {g : Nat → Nat} {ae : Nat → Nat} {az : Nat → Nat → Nat} {k : Int32 → qS → qS → qS → qS → (Nat → qS) → Prop} (hx : p.tables.exec = Jvm.exec) (hb : c.code = cX9_bin) (hml : c.maxLocals = 2) (hown : s.vm.findClass RX9 = some m.cls) (hts : ∀ w ∈ wsX9_bin, w.before args s = true) (hA : ∀ q : Nat, s.heap.size ≤ q → A q) (hKn : qKn G A s s.heap) (hret : ∀ (r : Int32) (q : qS) (o : qS) (d : qS) (tq : qS) (zs : (Nat → qS)) (H : Heap) (locs : List Loc) (ls : Array Slot) (pc : Nat), k r q o d tq zs → va_P G.1 vwCl (wQ G a q ++ (wO G a b ae g az o ++ (wD G g d ++ (wQ G ae tq ++ (wZ G az zs ++ R))))) H → va_D A (wQ G a q ++ (wO G a b ae g az o ++ (wD G g d ++ (wQ G ae tq ++ (wZ G az zs ++ R))))) → va_S A s.heap H locs → decode cX9_bin pc = .ok (.ireturn, 1) → W p l e rmX9_bin s m args below meth c H locs 0 0 Qf (F0 m pc ls [.int r])) : ∀ (q : qS) (o : qS) (d : qS) (tq : qS) (zs : (Nat → qS)) (z0 : Int32) (H : Heap) (locs : List Loc) (ls : Array Slot), wX9_bin_b25 k q o d tq zs z0 → va_P G.1 vwCl (wQ G a q ++ (wO G a b ae g az o ++ (wD G g d ++ (wQ G ae tq ++ (wZ G az zs ++ R))))) H → va_D A (wQ G a q ++ (wO G a b ae g az o ++ (wD G g d ++ (wQ G ae tq ++ (wZ G az zs ++ R))))) → va_S A s.heap H locs → lv_has ls 2 [] → W p l e rmX9_bin s m args below meth c H locs 0 0 Qf (F0 m 25 ls [.int z0]) := by
  intro q o d tq zs z0 H locs ls h hP hD hS hl
  unfold wX9_bin_b25 at h
  exact hret _ _ _ _ _ _ _ _ _ _ h hP hD hS dX9_bin_25
set_option maxHeartbeats 4000000 in
set_option maxRecDepth 100000 in
theorem mX9_bin (l : Launch) (G : qG) (k : Int32 → qS → qS → qS → qS → (Nat → qS) → Prop) (R : va_W) (a : Nat → Nat) (b : Nat → Nat) (g : Nat → Nat) (ae : Nat → Nat) (az : Nat → Nat → Nat) (q : qS) (o : qS) (d : qS) (tq : qS) (zs : (Nat → qS)) (sz : Nat) (p0 : Int32) : Met l yX9_bin wsX9_bin rmX9_bin (qPc G [.ref (b 0), .int p0] (wQ G a q ++ (wO G a b ae g az o ++ (wD G g d ++ (wQ G ae tq ++ (wZ G az zs ++ R))))) sz (wX9_bin k q o d tq zs p0)) (qQi G (wQ G a q ++ (wO G a b ae g az o ++ (wD G g d ++ (wQ G ae tq ++ (wZ G az zs ++ R))))) sz (fun (r : Int32) (u : qS × qS × qS × qS × (Nat → qS)) => k r u.1 u.2.1 u.2.2.1 u.2.2.2.1 u.2.2.2.2) (fun (u : qS × qS × qS × qS × (Nat → qS)) => wQ G a u.1 ++ (wO G a b ae g az u.2.1 ++ (wD G g u.2.2.1 ++ (wQ G ae u.2.2.2.1 ++ (wZ G az u.2.2.2.2 ++ R)))))) 0 0 (va_A (wQ G a q ++ (wO G a b ae g az o ++ (wD G g d ++ (wQ G ae tq ++ (wZ G az zs ++ R))))) sz) := by
  refine Met.ofW (cc := cX9_bin) (maxL := 2) (ret := (some .int)) (by decide) rfl ?_
  intro p e s m args below meth c s₁ B hml hv
  obtain ⟨rfl, hsz, hP, hD0, hKn0, h⟩ := hv
  have hx := B.exec
  have hb := B.bytes
  have hr := B.returns
  have hts := atoms_spec (ws := wsX9_bin) B.pre
  have hown : s.vm.findClass RX9 = some m.cls := findClass_of_methodNamed B.named
  have hlocks := B.notSynchronized
  subst hsz
  have hD := hD0.self (sz := s.heap.size)
  generalize hAe : va_A (wQ G a q ++ (wO G a b ae g az o ++ (wD G g d ++ (wQ G ae tq ++ (wZ G az zs ++ R))))) s.heap.size = A at hD hKn0 ⊢
  have hA : ∀ q : Nat, s.heap.size ≤ q → A q := fun q h => by rw [← hAe]; exact Or.inr h
  have hKn : qKn G A s s.heap := hKn0
  have hS : va_S A s.heap s.heap [] := va_S.rf
  have hret : ∀ (r : Int32) (q' : qS) (o' : qS) (d' : qS) (tq' : qS) (zs' : (Nat → qS)) (H : Heap) (locs : List Loc) (ls : Array Slot) (pc : Nat), k r q' o' d' tq' zs' → va_P G.1 vwCl (wQ G a q' ++ (wO G a b ae g az o' ++ (wD G g d' ++ (wQ G ae tq' ++ (wZ G az zs' ++ R))))) H → va_D A (wQ G a q' ++ (wO G a b ae g az o' ++ (wD G g d' ++ (wQ G ae tq' ++ (wZ G az zs' ++ R))))) → va_S A s.heap H locs → decode cX9_bin pc = .ok (.ireturn, 1) → W p l e rmX9_bin s m #[.ref (b 0), .int p0] below meth c H locs 0 0 (MQ below (qQi G (wQ G a q ++ (wO G a b ae g az o ++ (wD G g d ++ (wQ G ae tq ++ (wZ G az zs ++ R))))) s.heap.size (fun (r : Int32) (u : qS × qS × qS × qS × (Nat → qS)) => k r u.1 u.2.1 u.2.2.1 u.2.2.2.1 u.2.2.2.2) (fun (u : qS × qS × qS × qS × (Nat → qS)) => wQ G a u.1 ++ (wO G a b ae g az u.2.1 ++ (wD G g u.2.2.1 ++ (wQ G ae u.2.2.2.1 ++ (wZ G az u.2.2.2.2 ++ R)))))) #[.ref (b 0), .int p0] s 0 0 A) (F0 m pc ls [.int r]) := fun r q' o' d' tq' zs' H locs ls pc hk hP hD hS hd => W.iret hx hb hr (fun t ht hW => q_ri (u := (⟨q', o', d', tq', zs'⟩ : qS × qS × qS × qS × (Nat → qS))) hAe hk hP hD hS ht) hS.2.2 hd
  have hl := lv_entry ([.ref (b 0), .int p0]) (n := 2) (Nat.le_of_ble_eq_true rfl)
  rw [lg_entry_eq]
  generalize (lg_sl ([.ref (b 0), .int p0]) ++ List.replicate (2 - (lg_sl ([.ref (b 0), .int p0])).length) Slot.unset).toArray = ls at hl ⊢
  have hl : lv_has ls 2 [(0, .ref (b 0)), (1, .int p0)] := hl
  unfold wX9_bin at h
  show W p l e rmX9_bin s m #[.ref (b 0), .int p0] below meth c s.heap [] 0 0 _ _
  refine lv_iload_n hx hb dX9_bin_0 rfl (lv_at hl 1 rfl) ?_
  refine lv_iconst (v := (0 : Int32)) hx hb dX9_bin_1 (by decide) ?_
  refine lv_iconst (v := (2 : Int32)) hx hb dX9_bin_2 (by decide) ?_
  refine qc_si (As := [.int p0, .int (0 : Int32), .int (2 : Int32)]) (rest := []) ⟨hx, hb, hml, hown, hts⟩ (mX9_within l G _ _ _ p0 (0 : Int32) (2 : Int32)) (cwS 3 hts gX9_bin_X9_within rfl rfl rfl (by decide +kernel) ⟨Nat.le_of_ble_eq_true rfl, Nat.le_of_ble_eq_true rfl⟩) hP hD hS hA hKn h rfl hl.1 rfl (Nat.le_of_ble_eq_true rfl) dX9_bin_3 ⟨Nat.zero_le _, Nat.zero_le _⟩ (fun r1 _ H locs h hP hD hS => ?_)
  have hP : va_P G.1 vwCl (wQ G a q ++ (wO G a b ae g az o ++ (wD G g d ++ (wQ G ae tq ++ (wZ G az zs ++ R))))) H := hP
  have hD : va_D A (wQ G a q ++ (wO G a b ae g az o ++ (wD G g d ++ (wQ G ae tq ++ (wZ G az zs ++ R))))) := hD
  refine lv_if_eq (tgt := 24) hx hb dX9_bin_6 (by decide) (fun c1 => ?_) (fun c1 => ?_)
  · have h := h.1 c1
    refine lv_iconst (v := (-1 : Int32)) hx hb dX9_bin_24 (by decide) ?_
    exact kX9_bin_b25 hx hb hml hown hts hA hKn hret q o d tq zs (-1 : Int32) _ _ _ h hP hD hS (lv_sub hl [] rfl)
  · have h := h.2 c1
    refine lv_aload_n hx hb dX9_bin_9 rfl (lv_at hl 0 rfl) ?_
    refine va_get (D := G.1) (ci := 9) (v := .ref (a 0)) (C := RX9) (T := TX9) (N := 5) hx hb hts iX9_bin_X9 hown hKn.k hP 18 rfl rfl 0 (by decide) (hts _ lX9_bin_f10) (fun _ h9 => h9) rfl dX9_bin_10 ?_
    refine va_get (D := G.1) (ci := 6) (v := .ref (a 15)) (C := RX6) (T := TX6) (N := 10) hx hb hts iX9_bin_X6 hown hKn.k hP 0 rfl rfl 3 (by decide) (hts _ lX9_bin_f74) (fun _ h9 => h9) rfl dX9_bin_13 ?_
    refine va_get (D := G.1) (ci := 2) (v := .ref (a 11)) (C := RX2) (T := TX2) (N := 4) hx hb hts iX9_bin_X2 hown hKn.k hP 12 rfl rfl 1 (by decide) (hts _ lX9_bin_f143) (fun _ h9 => h9) rfl dX9_bin_16 ?_
    refine lv_iload_n hx hb dX9_bin_19 rfl (lv_at hl 1 rfl) ?_
    obtain ⟨hin, h⟩ := h
    refine va_iald hx hb hKn.k hP 14 0 rfl rfl hin dX9_bin_20 ?_
    refine lv_goto (tgt := 25) hx hb dX9_bin_21 (by decide) ?_
    exact kX9_bin_b25 hx hb hml hown hts hA hKn hret q o d tq zs (q 11 (Int32.toNatClampNeg p0)) _ _ _ h hP hD hS (lv_sub hl [] rfl)
abbrev rmX9_waiting : Room := { frames := 1, cells := 0, slots := 0, locals := 22 }
theorem lX9_waiting_f10 : Cond.fieldLink RX9 10 "QuarryBlends" "now" "LQuarryBlends$Quarry;" ∈ wsX9_waiting := by decide +kernel
theorem lX9_waiting_f162 : Cond.fieldLink RX9 162 "QuarryBlends$Crusher" "uncrushed" "[I" ∈ wsX9_waiting := by decide +kernel
theorem lX9_waiting_f74 : Cond.fieldLink RX9 74 "QuarryBlends$Quarry" "crusher" "LQuarryBlends$Crusher;" ∈ wsX9_waiting := by decide +kernel
theorem iX9_waiting_X2 : ∀ w ∈ wsX20, w ∈ wsX9_waiting := by decide +kernel
theorem iX9_waiting_X6 : ∀ w ∈ wsX60, w ∈ wsX9_waiting := by decide +kernel
theorem iX9_waiting_X9 : ∀ w ∈ wsX90, w ∈ wsX9_waiting := by decide +kernel
set_option maxHeartbeats 4000000 in
set_option maxRecDepth 100000 in
theorem kX9_waiting_b26 {p : Program} {l : Launch} {e : Env} {s : State} {m : MethodId} {args : Array Value} {below : List Frame} {meth : Method} {c : Code} {G : qG} {A : Nat → Prop} {Qf : State → Prop} {R : va_W} {a : Nat → Nat} {b : Nat → Nat} {g : Nat → Nat} {ae : Nat → Nat} {az : Nat → Nat → Nat} {k : Int32 → qS → qS → qS → qS → (Nat → qS) → Prop} (hx : p.tables.exec = Jvm.exec) (hb : c.code = cX9_waiting) (hml : c.maxLocals = 2) (hown : s.vm.findClass RX9 = some m.cls) (hts : ∀ w ∈ wsX9_waiting, w.before args s = true) (hA : ∀ q : Nat, s.heap.size ≤ q → A q) (hKn : qKn G A s s.heap) (hret : ∀ (r : Int32) (q : qS) (o : qS) (d : qS) (tq : qS) (zs : (Nat → qS)) (H : Heap) (locs : List Loc) (ls : Array Slot) (pc : Nat), k r q o d tq zs → va_P G.1 vwCl (wQ G a q ++ (wO G a b ae g az o ++ (wD G g d ++ (wQ G ae tq ++ (wZ G az zs ++ R))))) H → va_D A (wQ G a q ++ (wO G a b ae g az o ++ (wD G g d ++ (wQ G ae tq ++ (wZ G az zs ++ R))))) → va_S A s.heap H locs → decode cX9_waiting pc = .ok (.ireturn, 1) → W p l e rmX9_waiting s m args below meth c H locs 0 0 Qf (F0 m pc ls [.int r])) : ∀ (q : qS) (o : qS) (d : qS) (tq : qS) (zs : (Nat → qS)) (z0 : Int32) (H : Heap) (locs : List Loc) (ls : Array Slot), wX9_waiting_b26 k q o d tq zs z0 → va_P G.1 vwCl (wQ G a q ++ (wO G a b ae g az o ++ (wD G g d ++ (wQ G ae tq ++ (wZ G az zs ++ R))))) H → va_D A (wQ G a q ++ (wO G a b ae g az o ++ (wD G g d ++ (wQ G ae tq ++ (wZ G az zs ++ R))))) → va_S A s.heap H locs → lv_has ls 2 [] → W p l e rmX9_waiting s m args below meth c H locs 0 0 Qf (F0 m 26 ls [.int z0]) := by
  intro q o d tq zs z0 H locs ls h hP hD hS hl
  unfold wX9_waiting_b26 at h
  exact hret _ _ _ _ _ _ _ _ _ _ h hP hD hS dX9_waiting_26
set_option maxHeartbeats 4000000 in
set_option maxRecDepth 100000 in
theorem mX9_waiting (l : Launch) (G : qG) (k : Int32 → qS → qS → qS → qS → (Nat → qS) → Prop) (R : va_W) (a : Nat → Nat) (b : Nat → Nat) (g : Nat → Nat) (ae : Nat → Nat) (az : Nat → Nat → Nat) (q : qS) (o : qS) (d : qS) (tq : qS) (zs : (Nat → qS)) (sz : Nat) (p0 : Int32) : Met l yX9_waiting wsX9_waiting rmX9_waiting (qPc G [.ref (b 0), .int p0] (wQ G a q ++ (wO G a b ae g az o ++ (wD G g d ++ (wQ G ae tq ++ (wZ G az zs ++ R))))) sz (wX9_waiting k q o d tq zs p0)) (qQi G (wQ G a q ++ (wO G a b ae g az o ++ (wD G g d ++ (wQ G ae tq ++ (wZ G az zs ++ R))))) sz (fun (r : Int32) (u : qS × qS × qS × qS × (Nat → qS)) => k r u.1 u.2.1 u.2.2.1 u.2.2.2.1 u.2.2.2.2) (fun (u : qS × qS × qS × qS × (Nat → qS)) => wQ G a u.1 ++ (wO G a b ae g az u.2.1 ++ (wD G g u.2.2.1 ++ (wQ G ae u.2.2.2.1 ++ (wZ G az u.2.2.2.2 ++ R)))))) 0 0 (va_A (wQ G a q ++ (wO G a b ae g az o ++ (wD G g d ++ (wQ G ae tq ++ (wZ G az zs ++ R))))) sz) := by
  refine Met.ofW (cc := cX9_waiting) (maxL := 2) (ret := (some .int)) (by decide) rfl ?_
  intro p e s m args below meth c s₁ B hml hv
  obtain ⟨rfl, hsz, hP, hD0, hKn0, h⟩ := hv
  have hx := B.exec
  have hb := B.bytes
  have hr := B.returns
  have hts := atoms_spec (ws := wsX9_waiting) B.pre
  have hown : s.vm.findClass RX9 = some m.cls := findClass_of_methodNamed B.named
  have hlocks := B.notSynchronized
  subst hsz
  have hD := hD0.self (sz := s.heap.size)
  generalize hAe : va_A (wQ G a q ++ (wO G a b ae g az o ++ (wD G g d ++ (wQ G ae tq ++ (wZ G az zs ++ R))))) s.heap.size = A at hD hKn0 ⊢
  have hA : ∀ q : Nat, s.heap.size ≤ q → A q := fun q h => by rw [← hAe]; exact Or.inr h
  have hKn : qKn G A s s.heap := hKn0
  have hS : va_S A s.heap s.heap [] := va_S.rf
  have hret : ∀ (r : Int32) (q' : qS) (o' : qS) (d' : qS) (tq' : qS) (zs' : (Nat → qS)) (H : Heap) (locs : List Loc) (ls : Array Slot) (pc : Nat), k r q' o' d' tq' zs' → va_P G.1 vwCl (wQ G a q' ++ (wO G a b ae g az o' ++ (wD G g d' ++ (wQ G ae tq' ++ (wZ G az zs' ++ R))))) H → va_D A (wQ G a q' ++ (wO G a b ae g az o' ++ (wD G g d' ++ (wQ G ae tq' ++ (wZ G az zs' ++ R))))) → va_S A s.heap H locs → decode cX9_waiting pc = .ok (.ireturn, 1) → W p l e rmX9_waiting s m #[.ref (b 0), .int p0] below meth c H locs 0 0 (MQ below (qQi G (wQ G a q ++ (wO G a b ae g az o ++ (wD G g d ++ (wQ G ae tq ++ (wZ G az zs ++ R))))) s.heap.size (fun (r : Int32) (u : qS × qS × qS × qS × (Nat → qS)) => k r u.1 u.2.1 u.2.2.1 u.2.2.2.1 u.2.2.2.2) (fun (u : qS × qS × qS × qS × (Nat → qS)) => wQ G a u.1 ++ (wO G a b ae g az u.2.1 ++ (wD G g u.2.2.1 ++ (wQ G ae u.2.2.2.1 ++ (wZ G az u.2.2.2.2 ++ R)))))) #[.ref (b 0), .int p0] s 0 0 A) (F0 m pc ls [.int r]) := fun r q' o' d' tq' zs' H locs ls pc hk hP hD hS hd => W.iret hx hb hr (fun t ht hW => q_ri (u := (⟨q', o', d', tq', zs'⟩ : qS × qS × qS × qS × (Nat → qS))) hAe hk hP hD hS ht) hS.2.2 hd
  have hl := lv_entry ([.ref (b 0), .int p0]) (n := 2) (Nat.le_of_ble_eq_true rfl)
  rw [lg_entry_eq]
  generalize (lg_sl ([.ref (b 0), .int p0]) ++ List.replicate (2 - (lg_sl ([.ref (b 0), .int p0])).length) Slot.unset).toArray = ls at hl ⊢
  have hl : lv_has ls 2 [(0, .ref (b 0)), (1, .int p0)] := hl
  unfold wX9_waiting at h
  show W p l e rmX9_waiting s m #[.ref (b 0), .int p0] below meth c s.heap [] 0 0 _ _
  refine lv_iload_n hx hb dX9_waiting_0 rfl (lv_at hl 1 rfl) ?_
  refine lv_iconst (v := (1 : Int32)) hx hb dX9_waiting_1 (by decide) ?_
  refine lv_bipush (v := (9 : Int32)) hx hb dX9_waiting_2 (by decide) ?_
  refine qc_si (As := [.int p0, .int (1 : Int32), .int (9 : Int32)]) (rest := []) ⟨hx, hb, hml, hown, hts⟩ (mX9_within l G _ _ _ p0 (1 : Int32) (9 : Int32)) (cwS 3 hts gX9_waiting_X9_within rfl rfl rfl (by decide +kernel) ⟨Nat.le_of_ble_eq_true rfl, Nat.le_of_ble_eq_true rfl⟩) hP hD hS hA hKn h rfl hl.1 rfl (Nat.le_of_ble_eq_true rfl) dX9_waiting_4 ⟨Nat.zero_le _, Nat.zero_le _⟩ (fun r1 _ H locs h hP hD hS => ?_)
  have hP : va_P G.1 vwCl (wQ G a q ++ (wO G a b ae g az o ++ (wD G g d ++ (wQ G ae tq ++ (wZ G az zs ++ R))))) H := hP
  have hD : va_D A (wQ G a q ++ (wO G a b ae g az o ++ (wD G g d ++ (wQ G ae tq ++ (wZ G az zs ++ R))))) := hD
  refine lv_if_eq (tgt := 25) hx hb dX9_waiting_7 (by decide) (fun c1 => ?_) (fun c1 => ?_)
  · have h := h.1 c1
    refine lv_iconst (v := (-1 : Int32)) hx hb dX9_waiting_25 (by decide) ?_
    exact kX9_waiting_b26 hx hb hml hown hts hA hKn hret q o d tq zs (-1 : Int32) _ _ _ h hP hD hS (lv_sub hl [] rfl)
  · have h := h.2 c1
    refine lv_aload_n hx hb dX9_waiting_10 rfl (lv_at hl 0 rfl) ?_
    refine va_get (D := G.1) (ci := 9) (v := .ref (a 0)) (C := RX9) (T := TX9) (N := 5) hx hb hts iX9_waiting_X9 hown hKn.k hP 18 rfl rfl 0 (by decide) (hts _ lX9_waiting_f10) (fun _ h9 => h9) rfl dX9_waiting_11 ?_
    refine va_get (D := G.1) (ci := 6) (v := .ref (a 15)) (C := RX6) (T := TX6) (N := 10) hx hb hts iX9_waiting_X6 hown hKn.k hP 0 rfl rfl 3 (by decide) (hts _ lX9_waiting_f74) (fun _ h9 => h9) rfl dX9_waiting_14 ?_
    refine va_get (D := G.1) (ci := 2) (v := .ref (a 10)) (C := RX2) (T := TX2) (N := 4) hx hb hts iX9_waiting_X2 hown hKn.k hP 12 rfl rfl 0 (by decide) (hts _ lX9_waiting_f162) (fun _ h9 => h9) rfl dX9_waiting_17 ?_
    refine lv_iload_n hx hb dX9_waiting_20 rfl (lv_at hl 1 rfl) ?_
    obtain ⟨hin, h⟩ := h
    refine va_iald hx hb hKn.k hP 13 0 rfl rfl hin dX9_waiting_21 ?_
    refine lv_goto (tgt := 26) hx hb dX9_waiting_22 (by decide) ?_
    exact kX9_waiting_b26 hx hb hml hown hts hA hKn hret q o d tq zs (q 10 (Int32.toNatClampNeg p0)) _ _ _ h hP hD hS (lv_sub hl [] rfl)
abbrev rmX9_count : Room := { frames := 2, cells := 0, slots := 0, locals := 43 }
theorem lX9_count_f10 : Cond.fieldLink RX9 10 "QuarryBlends" "now" "LQuarryBlends$Quarry;" ∈ wsX9_count := by decide +kernel
theorem lX9_count_f101 : Cond.fieldLink RX9 101 "QuarryBlends$Quarry" "trucks" "LQuarryBlends$Trucks;" ∈ wsX9_count := by decide +kernel
theorem lX9_count_f113 : Cond.fieldLink RX9 113 "QuarryBlends$Quarry" "settings" "[I" ∈ wsX9_count := by decide +kernel
theorem lX9_count_f165 : Cond.fieldLink RX9 165 "QuarryBlends$Quarry" "hours" "I" ∈ wsX9_count := by decide +kernel
theorem lX9_count_f168 : Cond.fieldLink RX9 168 "QuarryBlends$Faces" "amount" "I" ∈ wsX9_count := by decide +kernel
theorem lX9_count_f171 : Cond.fieldLink RX9 171 "QuarryBlends$Contracts" "amount" "I" ∈ wsX9_count := by decide +kernel
theorem lX9_count_f178 : Cond.fieldLink RX9 178 "QuarryBlends$Crusher" "crushed" "I" ∈ wsX9_count := by decide +kernel
theorem lX9_count_f181 : Cond.fieldLink RX9 181 "QuarryBlends$Crusher" "wear" "I" ∈ wsX9_count := by decide +kernel
theorem lX9_count_f187 : Cond.fieldLink RX9 187 "QuarryBlends$Quarry" "delivered" "I" ∈ wsX9_count := by decide +kernel
theorem lX9_count_f190 : Cond.fieldLink RX9 190 "QuarryBlends$Quarry" "paid" "I" ∈ wsX9_count := by decide +kernel
theorem lX9_count_f193 : Cond.fieldLink RX9 193 "QuarryBlends$Quarry" "costs" "I" ∈ wsX9_count := by decide +kernel
theorem lX9_count_f196 : Cond.fieldLink RX9 196 "QuarryBlends$Pad" "length" "I" ∈ wsX9_count := by decide +kernel
theorem lX9_count_f199 : Cond.fieldLink RX9 199 "QuarryBlends$History" "amount" "I" ∈ wsX9_count := by decide +kernel
theorem lX9_count_f22 : Cond.fieldLink RX9 22 "QuarryBlends" "history" "LQuarryBlends$History;" ∈ wsX9_count := by decide +kernel
theorem lX9_count_f36 : Cond.fieldLink RX9 36 "QuarryBlends" "pad" "LQuarryBlends$Pad;" ∈ wsX9_count := by decide +kernel
theorem lX9_count_f52 : Cond.fieldLink RX9 52 "QuarryBlends$Quarry" "faces" "LQuarryBlends$Faces;" ∈ wsX9_count := by decide +kernel
theorem lX9_count_f62 : Cond.fieldLink RX9 62 "QuarryBlends$Quarry" "contracts" "LQuarryBlends$Contracts;" ∈ wsX9_count := by decide +kernel
theorem lX9_count_f74 : Cond.fieldLink RX9 74 "QuarryBlends$Quarry" "crusher" "LQuarryBlends$Crusher;" ∈ wsX9_count := by decide +kernel
theorem iX9_count_X1 : ∀ w ∈ wsX10, w ∈ wsX9_count := by decide +kernel
theorem iX9_count_X2 : ∀ w ∈ wsX20, w ∈ wsX9_count := by decide +kernel
theorem iX9_count_X3 : ∀ w ∈ wsX30, w ∈ wsX9_count := by decide +kernel
theorem iX9_count_X4 : ∀ w ∈ wsX40, w ∈ wsX9_count := by decide +kernel
theorem iX9_count_X5 : ∀ w ∈ wsX50, w ∈ wsX9_count := by decide +kernel
theorem iX9_count_X6 : ∀ w ∈ wsX60, w ∈ wsX9_count := by decide +kernel
theorem iX9_count_X9 : ∀ w ∈ wsX90, w ∈ wsX9_count := by decide +kernel
set_option maxHeartbeats 4000000 in
set_option maxRecDepth 100000 in
theorem kX9_count_b250 {p : Program} {l : Launch} {e : Env} {s : State} {m : MethodId} {args : Array Value} {below : List Frame} {meth : Method} {c : Code} {G : qG} {A : Nat → Prop} {Qf : State → Prop} {R : va_W} {a : Nat → Nat} {b : Nat → Nat} {g : Nat → Nat} {ae : Nat → Nat} {az : Nat → Nat → Nat} {k : Int32 → qS → qS → qS → qS → (Nat → qS) → Prop} (hx : p.tables.exec = Jvm.exec) (hb : c.code = cX9_count) (hml : c.maxLocals = 2) (hown : s.vm.findClass RX9 = some m.cls) (hts : ∀ w ∈ wsX9_count, w.before args s = true) (hA : ∀ q : Nat, s.heap.size ≤ q → A q) (hKn : qKn G A s s.heap) (hret : ∀ (r : Int32) (q : qS) (o : qS) (d : qS) (tq : qS) (zs : (Nat → qS)) (H : Heap) (locs : List Loc) (ls : Array Slot) (pc : Nat), k r q o d tq zs → va_P G.1 vwCl (wQ G a q ++ (wO G a b ae g az o ++ (wD G g d ++ (wQ G ae tq ++ (wZ G az zs ++ R))))) H → va_D A (wQ G a q ++ (wO G a b ae g az o ++ (wD G g d ++ (wQ G ae tq ++ (wZ G az zs ++ R))))) → va_S A s.heap H locs → decode cX9_count pc = .ok (.ireturn, 1) → W p l e rmX9_count s m args below meth c H locs 0 0 Qf (F0 m pc ls [.int r])) : ∀ (q : qS) (o : qS) (d : qS) (tq : qS) (zs : (Nat → qS)) (H : Heap) (locs : List Loc) (ls : Array Slot), wX9_count_b250 k q o d tq zs → va_P G.1 vwCl (wQ G a q ++ (wO G a b ae g az o ++ (wD G g d ++ (wQ G ae tq ++ (wZ G az zs ++ R))))) H → va_D A (wQ G a q ++ (wO G a b ae g az o ++ (wD G g d ++ (wQ G ae tq ++ (wZ G az zs ++ R))))) → va_S A s.heap H locs → lv_has ls 2 [] → W p l e rmX9_count s m args below meth c H locs 0 0 Qf (F0 m 250 ls []) := by
  intro q o d tq zs H locs ls h hP hD hS hl
  unfold wX9_count_b250 at h
  refine lv_bipush (v := (-2 : Int32)) hx hb dX9_count_250 (by decide) ?_
  exact hret _ _ _ _ _ _ _ _ _ _ h hP hD hS dX9_count_252
set_option maxHeartbeats 4000000 in
set_option maxRecDepth 100000 in
theorem mX9_count (l : Launch) (G : qG) (k : Int32 → qS → qS → qS → qS → (Nat → qS) → Prop) (R : va_W) (a : Nat → Nat) (b : Nat → Nat) (g : Nat → Nat) (ae : Nat → Nat) (az : Nat → Nat → Nat) (q : qS) (o : qS) (d : qS) (tq : qS) (zs : (Nat → qS)) (sz : Nat) (p0 : Int32) : Met l yX9_count wsX9_count rmX9_count (qPc G [.ref (b 0), .int p0] (wQ G a q ++ (wO G a b ae g az o ++ (wD G g d ++ (wQ G ae tq ++ (wZ G az zs ++ R))))) sz (wX9_count k q o d tq zs p0)) (qQi G (wQ G a q ++ (wO G a b ae g az o ++ (wD G g d ++ (wQ G ae tq ++ (wZ G az zs ++ R))))) sz (fun (r : Int32) (u : qS × qS × qS × qS × (Nat → qS)) => k r u.1 u.2.1 u.2.2.1 u.2.2.2.1 u.2.2.2.2) (fun (u : qS × qS × qS × qS × (Nat → qS)) => wQ G a u.1 ++ (wO G a b ae g az u.2.1 ++ (wD G g u.2.2.1 ++ (wQ G ae u.2.2.2.1 ++ (wZ G az u.2.2.2.2 ++ R)))))) 0 0 (va_A (wQ G a q ++ (wO G a b ae g az o ++ (wD G g d ++ (wQ G ae tq ++ (wZ G az zs ++ R))))) sz) := by
  refine Met.ofW (cc := cX9_count) (maxL := 2) (ret := (some .int)) (by decide) rfl ?_
  intro p e s m args below meth c s₁ B hml hv
  obtain ⟨rfl, hsz, hP, hD0, hKn0, h⟩ := hv
  have hx := B.exec
  have hb := B.bytes
  have hr := B.returns
  have hts := atoms_spec (ws := wsX9_count) B.pre
  have hown : s.vm.findClass RX9 = some m.cls := findClass_of_methodNamed B.named
  have hlocks := B.notSynchronized
  subst hsz
  have hD := hD0.self (sz := s.heap.size)
  generalize hAe : va_A (wQ G a q ++ (wO G a b ae g az o ++ (wD G g d ++ (wQ G ae tq ++ (wZ G az zs ++ R))))) s.heap.size = A at hD hKn0 ⊢
  have hA : ∀ q : Nat, s.heap.size ≤ q → A q := fun q h => by rw [← hAe]; exact Or.inr h
  have hKn : qKn G A s s.heap := hKn0
  have hS : va_S A s.heap s.heap [] := va_S.rf
  have hret : ∀ (r : Int32) (q' : qS) (o' : qS) (d' : qS) (tq' : qS) (zs' : (Nat → qS)) (H : Heap) (locs : List Loc) (ls : Array Slot) (pc : Nat), k r q' o' d' tq' zs' → va_P G.1 vwCl (wQ G a q' ++ (wO G a b ae g az o' ++ (wD G g d' ++ (wQ G ae tq' ++ (wZ G az zs' ++ R))))) H → va_D A (wQ G a q' ++ (wO G a b ae g az o' ++ (wD G g d' ++ (wQ G ae tq' ++ (wZ G az zs' ++ R))))) → va_S A s.heap H locs → decode cX9_count pc = .ok (.ireturn, 1) → W p l e rmX9_count s m #[.ref (b 0), .int p0] below meth c H locs 0 0 (MQ below (qQi G (wQ G a q ++ (wO G a b ae g az o ++ (wD G g d ++ (wQ G ae tq ++ (wZ G az zs ++ R))))) s.heap.size (fun (r : Int32) (u : qS × qS × qS × qS × (Nat → qS)) => k r u.1 u.2.1 u.2.2.1 u.2.2.2.1 u.2.2.2.2) (fun (u : qS × qS × qS × qS × (Nat → qS)) => wQ G a u.1 ++ (wO G a b ae g az u.2.1 ++ (wD G g u.2.2.1 ++ (wQ G ae u.2.2.2.1 ++ (wZ G az u.2.2.2.2 ++ R)))))) #[.ref (b 0), .int p0] s 0 0 A) (F0 m pc ls [.int r]) := fun r q' o' d' tq' zs' H locs ls pc hk hP hD hS hd => W.iret hx hb hr (fun t ht hW => q_ri (u := (⟨q', o', d', tq', zs'⟩ : qS × qS × qS × qS × (Nat → qS))) hAe hk hP hD hS ht) hS.2.2 hd
  have hl := lv_entry ([.ref (b 0), .int p0]) (n := 2) (Nat.le_of_ble_eq_true rfl)
  rw [lg_entry_eq]
  generalize (lg_sl ([.ref (b 0), .int p0]) ++ List.replicate (2 - (lg_sl ([.ref (b 0), .int p0])).length) Slot.unset).toArray = ls at hl ⊢
  have hl : lv_has ls 2 [(0, .ref (b 0)), (1, .int p0)] := hl
  unfold wX9_count at h
  show W p l e rmX9_count s m #[.ref (b 0), .int p0] below meth c s.heap [] 0 0 _ _
  refine lv_iload_n hx hb dX9_count_0 rfl (lv_at hl 1 rfl) ?_
  refine lv_bipush (v := (11 : Int32)) hx hb dX9_count_1 (by decide) ?_
  refine lv_bipush (v := (16 : Int32)) hx hb dX9_count_3 (by decide) ?_
  refine qc_si (As := [.int p0, .int (11 : Int32), .int (16 : Int32)]) (rest := []) ⟨hx, hb, hml, hown, hts⟩ (mX9_within l G _ _ _ p0 (11 : Int32) (16 : Int32)) (cwS 3 hts gX9_count_X9_within rfl rfl rfl (by decide +kernel) ⟨Nat.le_of_ble_eq_true rfl, Nat.le_of_ble_eq_true rfl⟩) hP hD hS hA hKn h rfl hl.1 rfl (Nat.le_of_ble_eq_true rfl) dX9_count_5 ⟨Nat.zero_le _, Nat.zero_le _⟩ (fun r1 _ H locs h hP hD hS => ?_)
  have hP : va_P G.1 vwCl (wQ G a q ++ (wO G a b ae g az o ++ (wD G g d ++ (wQ G ae tq ++ (wZ G az zs ++ R))))) H := hP
  have hD : va_D A (wQ G a q ++ (wO G a b ae g az o ++ (wD G g d ++ (wQ G ae tq ++ (wZ G az zs ++ R))))) := hD
  refine lv_if_eq (tgt := 24) hx hb dX9_count_8 (by decide) (fun c1 => ?_) (fun c1 => ?_)
  · have h := h.1 c1
    refine lv_iload_n hx hb dX9_count_24 rfl (lv_at hl 1 rfl) ?_
    by_cases c0 : p0 = (0 : Int32)
    · refine lv_tableIn (tgt := 116) hx hb dX9_count_25 (by rw [c0]; decide) (by rw [c0]; decide) (by rw [c0]; rfl) (by decide) ?_
      have h := (h.1) c0
      refine lv_aload_n hx hb dX9_count_116 rfl (lv_at hl 0 rfl) ?_
      refine va_get (D := G.1) (ci := 9) (v := .ref (a 0)) (C := RX9) (T := TX9) (N := 5) hx hb hts iX9_count_X9 hown hKn.k hP 18 rfl rfl 0 (by decide) (hts _ lX9_count_f10) (fun _ h9 => h9) rfl dX9_count_117 ?_
      refine va_get (D := G.1) (ci := 6) (v := .int (q 0 0)) (C := RX6) (T := TX6) (N := 10) hx hb hts iX9_count_X6 hown hKn.k hP 0 rfl rfl 6 (by decide) (hts _ lX9_count_f165) (fun _ h9 => h9) rfl dX9_count_120 ?_
      exact hret _ _ _ _ _ _ _ _ _ _ h hP hD hS dX9_count_123
    · skip
      by_cases c1 : p0 = (1 : Int32)
      · refine lv_tableIn (tgt := 124) hx hb dX9_count_25 (by rw [c1]; decide) (by rw [c1]; decide) (by rw [c1]; rfl) (by decide) ?_
        have h := (h.2.1) c1
        refine lv_aload_n hx hb dX9_count_124 rfl (lv_at hl 0 rfl) ?_
        refine va_get (D := G.1) (ci := 9) (v := .ref (a 0)) (C := RX9) (T := TX9) (N := 5) hx hb hts iX9_count_X9 hown hKn.k hP 18 rfl rfl 0 (by decide) (hts _ lX9_count_f10) (fun _ h9 => h9) rfl dX9_count_125 ?_
        refine va_get (D := G.1) (ci := 6) (v := .ref (a 13)) (C := RX6) (T := TX6) (N := 10) hx hb hts iX9_count_X6 hown hKn.k hP 0 rfl rfl 1 (by decide) (hts _ lX9_count_f52) (fun _ h9 => h9) rfl dX9_count_128 ?_
        refine va_get (D := G.1) (ci := 3) (v := .int (q 0 4)) (C := RX3) (T := TX3) (N := 5) hx hb hts iX9_count_X3 hown hKn.k hP 2 rfl rfl 4 (by decide) (hts _ lX9_count_f168) (fun _ h9 => h9) rfl dX9_count_131 ?_
        exact hret _ _ _ _ _ _ _ _ _ _ h hP hD hS dX9_count_134
      · skip
        by_cases c2 : p0 = (2 : Int32)
        · refine lv_tableIn (tgt := 135) hx hb dX9_count_25 (by rw [c2]; decide) (by rw [c2]; decide) (by rw [c2]; rfl) (by decide) ?_
          have h := (h.2.2.1) c2
          refine lv_aload_n hx hb dX9_count_135 rfl (lv_at hl 0 rfl) ?_
          refine va_get (D := G.1) (ci := 9) (v := .ref (a 0)) (C := RX9) (T := TX9) (N := 5) hx hb hts iX9_count_X9 hown hKn.k hP 18 rfl rfl 0 (by decide) (hts _ lX9_count_f10) (fun _ h9 => h9) rfl dX9_count_136 ?_
          refine va_get (D := G.1) (ci := 6) (v := .ref (a 16)) (C := RX6) (T := TX6) (N := 10) hx hb hts iX9_count_X6 hown hKn.k hP 0 rfl rfl 4 (by decide) (hts _ lX9_count_f62) (fun _ h9 => h9) rfl dX9_count_139 ?_
          refine va_get (D := G.1) (ci := 1) (v := .int (q 0 5)) (C := RX1) (T := TX1) (N := 2) hx hb hts iX9_count_X1 hown hKn.k hP 15 rfl rfl 1 (by decide) (hts _ lX9_count_f171) (fun _ h9 => h9) rfl dX9_count_142 ?_
          exact hret _ _ _ _ _ _ _ _ _ _ h hP hD hS dX9_count_145
        · skip
          by_cases c3 : p0 = (3 : Int32)
          · refine lv_tableIn (tgt := 146) hx hb dX9_count_25 (by rw [c3]; decide) (by rw [c3]; decide) (by rw [c3]; rfl) (by decide) ?_
            have h := (h.2.2.2.1) c3
            refine lv_aload_n hx hb dX9_count_146 rfl (lv_at hl 0 rfl) ?_
            refine va_get (D := G.1) (ci := 9) (v := .ref (a 0)) (C := RX9) (T := TX9) (N := 5) hx hb hts iX9_count_X9 hown hKn.k hP 18 rfl rfl 0 (by decide) (hts _ lX9_count_f10) (fun _ h9 => h9) rfl dX9_count_147 ?_
            refine va_get (D := G.1) (ci := 6) (v := .ref (a 14)) (C := RX6) (T := TX6) (N := 10) hx hb hts iX9_count_X6 hown hKn.k hP 0 rfl rfl 2 (by decide) (hts _ lX9_count_f101) (fun _ h9 => h9) rfl dX9_count_150 ?_
            refine qc_vi (As := []) (rest := []) ⟨hx, hb, hml, hown, hts⟩ (mX8_awayInAll l G _ _ a q _ ) (cwV 0 hts gX9_count_X8_awayInAll rfl rfl rfl (by decide +kernel) ⟨Nat.le_of_ble_eq_true rfl, Nat.le_of_ble_eq_true rfl⟩) hP hD hS hA hKn 7 8 rfl rfl rfl h rfl hl.1 rfl (Nat.le_of_ble_eq_true rfl) dX9_count_153 ⟨Nat.zero_le _, Nat.zero_le _⟩ (fun r2 q3 H locs h hP hD hS => ?_)
            have hP : va_P G.1 vwCl (wQ G a q3 ++ (wO G a b ae g az o ++ (wD G g d ++ (wQ G ae tq ++ (wZ G az zs ++ R))))) H := hP
            have hD : va_D A (wQ G a q3 ++ (wO G a b ae g az o ++ (wD G g d ++ (wQ G ae tq ++ (wZ G az zs ++ R))))) := hD
            exact hret _ _ _ _ _ _ _ _ _ _ h hP hD hS dX9_count_156
          · skip
            by_cases c4 : p0 = (4 : Int32)
            · refine lv_tableIn (tgt := 157) hx hb dX9_count_25 (by rw [c4]; decide) (by rw [c4]; decide) (by rw [c4]; rfl) (by decide) ?_
              have h := (h.2.2.2.2.1) c4
              refine lv_aload_n hx hb dX9_count_157 rfl (lv_at hl 0 rfl) ?_
              refine va_get (D := G.1) (ci := 9) (v := .ref (a 0)) (C := RX9) (T := TX9) (N := 5) hx hb hts iX9_count_X9 hown hKn.k hP 18 rfl rfl 0 (by decide) (hts _ lX9_count_f10) (fun _ h9 => h9) rfl dX9_count_158 ?_
              refine va_get (D := G.1) (ci := 6) (v := .ref (a 15)) (C := RX6) (T := TX6) (N := 10) hx hb hts iX9_count_X6 hown hKn.k hP 0 rfl rfl 3 (by decide) (hts _ lX9_count_f74) (fun _ h9 => h9) rfl dX9_count_161 ?_
              refine qc_vi (As := []) (rest := []) ⟨hx, hb, hml, hown, hts⟩ (mX2_uncrushedInAll l G _ _ a q _ ) (cwV 0 hts gX9_count_X2_uncrushedInAll rfl rfl rfl (by decide +kernel) ⟨Nat.le_of_ble_eq_true rfl, Nat.le_of_ble_eq_true rfl⟩) hP hD hS hA hKn 12 2 rfl rfl rfl h rfl hl.1 rfl (Nat.le_of_ble_eq_true rfl) dX9_count_164 ⟨Nat.zero_le _, Nat.zero_le _⟩ (fun r4 q5 H locs h hP hD hS => ?_)
              have hP : va_P G.1 vwCl (wQ G a q5 ++ (wO G a b ae g az o ++ (wD G g d ++ (wQ G ae tq ++ (wZ G az zs ++ R))))) H := hP
              have hD : va_D A (wQ G a q5 ++ (wO G a b ae g az o ++ (wD G g d ++ (wQ G ae tq ++ (wZ G az zs ++ R))))) := hD
              exact hret _ _ _ _ _ _ _ _ _ _ h hP hD hS dX9_count_167
            · skip
              by_cases c5 : p0 = (5 : Int32)
              · refine lv_tableIn (tgt := 168) hx hb dX9_count_25 (by rw [c5]; decide) (by rw [c5]; decide) (by rw [c5]; rfl) (by decide) ?_
                have h := (h.2.2.2.2.2.1) c5
                refine lv_aload_n hx hb dX9_count_168 rfl (lv_at hl 0 rfl) ?_
                refine va_get (D := G.1) (ci := 9) (v := .ref (a 0)) (C := RX9) (T := TX9) (N := 5) hx hb hts iX9_count_X9 hown hKn.k hP 18 rfl rfl 0 (by decide) (hts _ lX9_count_f10) (fun _ h9 => h9) rfl dX9_count_169 ?_
                refine va_get (D := G.1) (ci := 6) (v := .ref (a 15)) (C := RX6) (T := TX6) (N := 10) hx hb hts iX9_count_X6 hown hKn.k hP 0 rfl rfl 3 (by decide) (hts _ lX9_count_f74) (fun _ h9 => h9) rfl dX9_count_172 ?_
                refine va_get (D := G.1) (ci := 2) (v := .int (q 0 7)) (C := RX2) (T := TX2) (N := 4) hx hb hts iX9_count_X2 hown hKn.k hP 12 rfl rfl 3 (by decide) (hts _ lX9_count_f178) (fun _ h9 => h9) rfl dX9_count_175 ?_
                exact hret _ _ _ _ _ _ _ _ _ _ h hP hD hS dX9_count_178
              · skip
                by_cases c6 : p0 = (6 : Int32)
                · refine lv_tableIn (tgt := 179) hx hb dX9_count_25 (by rw [c6]; decide) (by rw [c6]; decide) (by rw [c6]; rfl) (by decide) ?_
                  have h := (h.2.2.2.2.2.2.1) c6
                  refine lv_aload_n hx hb dX9_count_179 rfl (lv_at hl 0 rfl) ?_
                  refine va_get (D := G.1) (ci := 9) (v := .ref (a 0)) (C := RX9) (T := TX9) (N := 5) hx hb hts iX9_count_X9 hown hKn.k hP 18 rfl rfl 0 (by decide) (hts _ lX9_count_f10) (fun _ h9 => h9) rfl dX9_count_180 ?_
                  refine va_get (D := G.1) (ci := 6) (v := .ref (a 15)) (C := RX6) (T := TX6) (N := 10) hx hb hts iX9_count_X6 hown hKn.k hP 0 rfl rfl 3 (by decide) (hts _ lX9_count_f74) (fun _ h9 => h9) rfl dX9_count_183 ?_
                  refine va_get (D := G.1) (ci := 2) (v := .int (q 0 6)) (C := RX2) (T := TX2) (N := 4) hx hb hts iX9_count_X2 hown hKn.k hP 12 rfl rfl 2 (by decide) (hts _ lX9_count_f181) (fun _ h9 => h9) rfl dX9_count_186 ?_
                  exact hret _ _ _ _ _ _ _ _ _ _ h hP hD hS dX9_count_189
                · skip
                  by_cases c7 : p0 = (7 : Int32)
                  · refine lv_tableIn (tgt := 190) hx hb dX9_count_25 (by rw [c7]; decide) (by rw [c7]; decide) (by rw [c7]; rfl) (by decide) ?_
                    have h := (h.2.2.2.2.2.2.2.1) c7
                    refine lv_aload_n hx hb dX9_count_190 rfl (lv_at hl 0 rfl) ?_
                    refine va_get (D := G.1) (ci := 9) (v := .ref (a 0)) (C := RX9) (T := TX9) (N := 5) hx hb hts iX9_count_X9 hown hKn.k hP 18 rfl rfl 0 (by decide) (hts _ lX9_count_f10) (fun _ h9 => h9) rfl dX9_count_191 ?_
                    refine va_get (D := G.1) (ci := 6) (v := .ref (a 15)) (C := RX6) (T := TX6) (N := 10) hx hb hts iX9_count_X6 hown hKn.k hP 0 rfl rfl 3 (by decide) (hts _ lX9_count_f74) (fun _ h9 => h9) rfl dX9_count_194 ?_
                    refine lv_aload_n hx hb dX9_count_197 rfl (lv_at hl 0 rfl) ?_
                    refine va_get (D := G.1) (ci := 9) (v := .ref (a 0)) (C := RX9) (T := TX9) (N := 5) hx hb hts iX9_count_X9 hown hKn.k hP 18 rfl rfl 0 (by decide) (hts _ lX9_count_f10) (fun _ h9 => h9) rfl dX9_count_198 ?_
                    refine va_get (D := G.1) (ci := 6) (v := .ref (a 1)) (C := RX6) (T := TX6) (N := 10) hx hb hts iX9_count_X6 hown hKn.k hP 0 rfl rfl 0 (by decide) (hts _ lX9_count_f113) (fun _ h9 => h9) rfl dX9_count_201 ?_
                    refine lv_iconst (v := (4 : Int32)) hx hb dX9_count_204 (by decide) ?_
                    refine va_iald hx hb hKn.k hP 1 0 rfl rfl (by unfold vp_in; decide) dX9_count_205 ?_
                    refine qc_vi (As := [.int (q 1 4)]) (rest := []) ⟨hx, hb, hml, hown, hts⟩ (mX2_tonnesInAnHour l G _ _ a q _ (q 1 4)) (cwV 1 hts gX9_count_X2_tonnesInAnHour rfl rfl rfl (by decide +kernel) ⟨Nat.le_of_ble_eq_true rfl, Nat.le_of_ble_eq_true rfl⟩) hP hD hS hA hKn 12 2 rfl rfl rfl h rfl hl.1 rfl (Nat.le_of_ble_eq_true rfl) dX9_count_206 ⟨Nat.zero_le _, Nat.zero_le _⟩ (fun r6 q7 H locs h hP hD hS => ?_)
                    have hP : va_P G.1 vwCl (wQ G a q7 ++ (wO G a b ae g az o ++ (wD G g d ++ (wQ G ae tq ++ (wZ G az zs ++ R))))) H := hP
                    have hD : va_D A (wQ G a q7 ++ (wO G a b ae g az o ++ (wD G g d ++ (wQ G ae tq ++ (wZ G az zs ++ R))))) := hD
                    exact hret _ _ _ _ _ _ _ _ _ _ h hP hD hS dX9_count_209
                  · skip
                    by_cases c8 : p0 = (8 : Int32)
                    · refine lv_tableIn (tgt := 210) hx hb dX9_count_25 (by rw [c8]; decide) (by rw [c8]; decide) (by rw [c8]; rfl) (by decide) ?_
                      have h := (h.2.2.2.2.2.2.2.2.1) c8
                      refine lv_aload_n hx hb dX9_count_210 rfl (lv_at hl 0 rfl) ?_
                      refine va_get (D := G.1) (ci := 9) (v := .ref (a 0)) (C := RX9) (T := TX9) (N := 5) hx hb hts iX9_count_X9 hown hKn.k hP 18 rfl rfl 0 (by decide) (hts _ lX9_count_f10) (fun _ h9 => h9) rfl dX9_count_211 ?_
                      refine va_get (D := G.1) (ci := 6) (v := .int (q 0 1)) (C := RX6) (T := TX6) (N := 10) hx hb hts iX9_count_X6 hown hKn.k hP 0 rfl rfl 7 (by decide) (hts _ lX9_count_f187) (fun _ h9 => h9) rfl dX9_count_214 ?_
                      exact hret _ _ _ _ _ _ _ _ _ _ h hP hD hS dX9_count_217
                    · skip
                      by_cases c9 : p0 = (9 : Int32)
                      · refine lv_tableIn (tgt := 218) hx hb dX9_count_25 (by rw [c9]; decide) (by rw [c9]; decide) (by rw [c9]; rfl) (by decide) ?_
                        have h := (h.2.2.2.2.2.2.2.2.2.1) c9
                        refine lv_aload_n hx hb dX9_count_218 rfl (lv_at hl 0 rfl) ?_
                        refine va_get (D := G.1) (ci := 9) (v := .ref (a 0)) (C := RX9) (T := TX9) (N := 5) hx hb hts iX9_count_X9 hown hKn.k hP 18 rfl rfl 0 (by decide) (hts _ lX9_count_f10) (fun _ h9 => h9) rfl dX9_count_219 ?_
                        refine va_get (D := G.1) (ci := 6) (v := .int (q 0 2)) (C := RX6) (T := TX6) (N := 10) hx hb hts iX9_count_X6 hown hKn.k hP 0 rfl rfl 8 (by decide) (hts _ lX9_count_f190) (fun _ h9 => h9) rfl dX9_count_222 ?_
                        exact hret _ _ _ _ _ _ _ _ _ _ h hP hD hS dX9_count_225
                      · skip
                        by_cases c10 : p0 = (10 : Int32)
                        · refine lv_tableIn (tgt := 226) hx hb dX9_count_25 (by rw [c10]; decide) (by rw [c10]; decide) (by rw [c10]; rfl) (by decide) ?_
                          have h := (h.2.2.2.2.2.2.2.2.2.2.1) c10
                          refine lv_aload_n hx hb dX9_count_226 rfl (lv_at hl 0 rfl) ?_
                          refine va_get (D := G.1) (ci := 9) (v := .ref (a 0)) (C := RX9) (T := TX9) (N := 5) hx hb hts iX9_count_X9 hown hKn.k hP 18 rfl rfl 0 (by decide) (hts _ lX9_count_f10) (fun _ h9 => h9) rfl dX9_count_227 ?_
                          refine va_get (D := G.1) (ci := 6) (v := .int (q 0 3)) (C := RX6) (T := TX6) (N := 10) hx hb hts iX9_count_X6 hown hKn.k hP 0 rfl rfl 9 (by decide) (hts _ lX9_count_f193) (fun _ h9 => h9) rfl dX9_count_230 ?_
                          exact hret _ _ _ _ _ _ _ _ _ _ h hP hD hS dX9_count_233
                        · skip
                          by_cases c11 : p0 = (11 : Int32)
                          · refine lv_tableIn (tgt := 250) hx hb dX9_count_25 (by rw [c11]; decide) (by rw [c11]; decide) (by rw [c11]; rfl) (by decide) ?_
                            have h := (h.2.2.2.2.2.2.2.2.2.2.2.1) c11
                            exact kX9_count_b250 hx hb hml hown hts hA hKn hret q o d tq zs _ _ _ h hP hD hS (lv_sub hl [] rfl)
                          · skip
                            by_cases c12 : p0 = (12 : Int32)
                            · refine lv_tableIn (tgt := 250) hx hb dX9_count_25 (by rw [c12]; decide) (by rw [c12]; decide) (by rw [c12]; rfl) (by decide) ?_
                              have h := (h.2.2.2.2.2.2.2.2.2.2.2.2.1) c12
                              exact kX9_count_b250 hx hb hml hown hts hA hKn hret q o d tq zs _ _ _ h hP hD hS (lv_sub hl [] rfl)
                            · skip
                              by_cases c13 : p0 = (13 : Int32)
                              · refine lv_tableIn (tgt := 250) hx hb dX9_count_25 (by rw [c13]; decide) (by rw [c13]; decide) (by rw [c13]; rfl) (by decide) ?_
                                have h := (h.2.2.2.2.2.2.2.2.2.2.2.2.2.1) c13
                                exact kX9_count_b250 hx hb hml hown hts hA hKn hret q o d tq zs _ _ _ h hP hD hS (lv_sub hl [] rfl)
                              · skip
                                by_cases c14 : p0 = (14 : Int32)
                                · refine lv_tableIn (tgt := 250) hx hb dX9_count_25 (by rw [c14]; decide) (by rw [c14]; decide) (by rw [c14]; rfl) (by decide) ?_
                                  have h := (h.2.2.2.2.2.2.2.2.2.2.2.2.2.2.1) c14
                                  exact kX9_count_b250 hx hb hml hown hts hA hKn hret q o d tq zs _ _ _ h hP hD hS (lv_sub hl [] rfl)
                                · skip
                                  by_cases c15 : p0 = (15 : Int32)
                                  · refine lv_tableIn (tgt := 250) hx hb dX9_count_25 (by rw [c15]; decide) (by rw [c15]; decide) (by rw [c15]; rfl) (by decide) ?_
                                    have h := (h.2.2.2.2.2.2.2.2.2.2.2.2.2.2.2.1) c15
                                    exact kX9_count_b250 hx hb hml hown hts hA hKn hret q o d tq zs _ _ _ h hP hD hS (lv_sub hl [] rfl)
                                  · skip
                                    by_cases c16 : p0 = (16 : Int32)
                                    · refine lv_tableIn (tgt := 250) hx hb dX9_count_25 (by rw [c16]; decide) (by rw [c16]; decide) (by rw [c16]; rfl) (by decide) ?_
                                      have h := (h.2.2.2.2.2.2.2.2.2.2.2.2.2.2.2.2.1) c16
                                      exact kX9_count_b250 hx hb hml hown hts hA hKn hret q o d tq zs _ _ _ h hP hD hS (lv_sub hl [] rfl)
                                    · skip
                                      by_cases c17 : p0 = (17 : Int32)
                                      · refine lv_tableIn (tgt := 234) hx hb dX9_count_25 (by rw [c17]; decide) (by rw [c17]; decide) (by rw [c17]; rfl) (by decide) ?_
                                        have h := (h.2.2.2.2.2.2.2.2.2.2.2.2.2.2.2.2.2.1) c17
                                        refine lv_aload_n hx hb dX9_count_234 rfl (lv_at hl 0 rfl) ?_
                                        refine va_get (D := G.1) (ci := 9) (v := .ref (g 0)) (C := RX9) (T := TX9) (N := 5) hx hb hts iX9_count_X9 hown hKn.k hP 18 rfl rfl 4 (by decide) (hts _ lX9_count_f36) (fun _ h9 => h9) rfl dX9_count_235 ?_
                                        refine va_get (D := G.1) (ci := 5) (v := .int (d 0 0)) (C := RX5) (T := TX5) (N := 6) hx hb hts iX9_count_X5 hown hKn.k hP 24 rfl rfl 1 (by decide) (hts _ lX9_count_f196) (fun _ h9 => h9) rfl dX9_count_238 ?_
                                        exact hret _ _ _ _ _ _ _ _ _ _ h hP hD hS dX9_count_241
                                      · skip
                                        by_cases c18 : p0 = (18 : Int32)
                                        · refine lv_tableIn (tgt := 242) hx hb dX9_count_25 (by rw [c18]; decide) (by rw [c18]; decide) (by rw [c18]; rfl) (by decide) ?_
                                          have h := (h.2.2.2.2.2.2.2.2.2.2.2.2.2.2.2.2.2.2.1) c18
                                          refine lv_aload_n hx hb dX9_count_242 rfl (lv_at hl 0 rfl) ?_
                                          refine va_get (D := G.1) (ci := 9) (v := .ref (b 1)) (C := RX9) (T := TX9) (N := 5) hx hb hts iX9_count_X9 hown hKn.k hP 18 rfl rfl 2 (by decide) (hts _ lX9_count_f22) (fun _ h9 => h9) rfl dX9_count_243 ?_
                                          refine va_get (D := G.1) (ci := 4) (v := .int (o 0 1)) (C := RX4) (T := TX4) (N := 3) hx hb hts iX9_count_X4 hown hKn.k hP 19 rfl rfl 2 (by decide) (hts _ lX9_count_f199) (fun _ h9 => h9) rfl dX9_count_246 ?_
                                          exact hret _ _ _ _ _ _ _ _ _ _ h hP hD hS dX9_count_249
                                        · skip
                                          refine lv_tableOut (tgt := 250) hx hb dX9_count_25 (by have gc0 : ¬ (p0).toInt = 0 := q_ti _ (0) c0; have gc1 : ¬ (p0).toInt = 1 := q_ti _ (1) c1; have gc2 : ¬ (p0).toInt = 2 := q_ti _ (2) c2; have gc3 : ¬ (p0).toInt = 3 := q_ti _ (3) c3; have gc4 : ¬ (p0).toInt = 4 := q_ti _ (4) c4; have gc5 : ¬ (p0).toInt = 5 := q_ti _ (5) c5; have gc6 : ¬ (p0).toInt = 6 := q_ti _ (6) c6; have gc7 : ¬ (p0).toInt = 7 := q_ti _ (7) c7; have gc8 : ¬ (p0).toInt = 8 := q_ti _ (8) c8; have gc9 : ¬ (p0).toInt = 9 := q_ti _ (9) c9; have gc10 : ¬ (p0).toInt = 10 := q_ti _ (10) c10; have gc11 : ¬ (p0).toInt = 11 := q_ti _ (11) c11; have gc12 : ¬ (p0).toInt = 12 := q_ti _ (12) c12; have gc13 : ¬ (p0).toInt = 13 := q_ti _ (13) c13; have gc14 : ¬ (p0).toInt = 14 := q_ti _ (14) c14; have gc15 : ¬ (p0).toInt = 15 := q_ti _ (15) c15; have gc16 : ¬ (p0).toInt = 16 := q_ti _ (16) c16; have gc17 : ¬ (p0).toInt = 17 := q_ti _ (17) c17; have gc18 : ¬ (p0).toInt = 18 := q_ti _ (18) c18; omega) (by decide) ?_
                                          have h := h.2.2.2.2.2.2.2.2.2.2.2.2.2.2.2.2.2.2.2 c0 c1 c2 c3 c4 c5 c6 c7 c8 c9 c10 c11 c12 c13 c14 c15 c16 c17 c18
                                          exact kX9_count_b250 hx hb hml hown hts hA hKn hret q o d tq zs _ _ _ h hP hD hS (lv_sub hl [] rfl)
  · have h := h.2 c1
    refine lv_aload_n hx hb dX9_count_11 rfl (lv_at hl 0 rfl) ?_
    refine va_get (D := G.1) (ci := 9) (v := .ref (a 0)) (C := RX9) (T := TX9) (N := 5) hx hb hts iX9_count_X9 hown hKn.k hP 18 rfl rfl 0 (by decide) (hts _ lX9_count_f10) (fun _ h9 => h9) rfl dX9_count_12 ?_
    refine va_get (D := G.1) (ci := 6) (v := .ref (a 1)) (C := RX6) (T := TX6) (N := 10) hx hb hts iX9_count_X6 hown hKn.k hP 0 rfl rfl 0 (by decide) (hts _ lX9_count_f113) (fun _ h9 => h9) rfl dX9_count_15 ?_
    refine lv_iload_n hx hb dX9_count_18 rfl (lv_at hl 1 rfl) ?_
    refine lv_bipush (v := (11 : Int32)) hx hb dX9_count_19 (by decide) ?_
    refine lv_isub hx hb dX9_count_21 ?_
    obtain ⟨hin, h⟩ := h
    refine va_iald hx hb hKn.k hP 1 0 rfl rfl hin dX9_count_22 ?_
    exact hret _ _ _ _ _ _ _ _ _ _ h hP hD hS dX9_count_23
