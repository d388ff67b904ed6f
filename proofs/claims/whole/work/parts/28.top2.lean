abbrev rmX9_then : Room := { frames := 5, cells := 0, slots := 0, locals := 115 }
theorem lX9_then_c207 : Cond.constant RX9 207 (1000000) ∈ wsX9_then := by decide +kernel
theorem lX9_then_f10 : Cond.fieldLink RX9 10 "QuarryBlends" "now" "LQuarryBlends$Quarry;" ∈ wsX9_then := by decide +kernel
theorem lX9_then_f16 : Cond.fieldLink RX9 16 "QuarryBlends" "trial" "LQuarryBlends$Quarry;" ∈ wsX9_then := by decide +kernel
theorem lX9_then_f190 : Cond.fieldLink RX9 190 "QuarryBlends$Quarry" "paid" "I" ∈ wsX9_then := by decide +kernel
theorem lX9_then_f193 : Cond.fieldLink RX9 193 "QuarryBlends$Quarry" "costs" "I" ∈ wsX9_then := by decide +kernel
theorem iX9_then_X6 : ∀ w ∈ wsX60, w ∈ wsX9_then := by decide +kernel
theorem iX9_then_X9 : ∀ w ∈ wsX90, w ∈ wsX9_then := by decide +kernel
set_option maxHeartbeats 4000000 in
set_option maxRecDepth 100000 in
theorem kX9_then_b19 {p : Program} {l : Launch} {e : Env} {s : State} {m : MethodId} {args : Array Value} {below : List Frame} {meth : Method} {c : Code} {G : qG} {A : Nat → Prop} {Qf : State → Prop} {R : va_W} {a : Nat → Nat} {b : Nat → Nat} {g : Nat → Nat} {ae : Nat → Nat} {az : Nat → Nat → Nat} {k : Int32 → qS → qS → qS → qS → (Nat → qS) → Prop} (hx : p.tables.exec = Jvm.exec) (hb : c.code = cX9_then) (hml : c.maxLocals = 4) (hown : s.vm.findClass RX9 = some m.cls) (hts : ∀ w ∈ wsX9_then, w.before args s = true) (hA : ∀ q : Nat, s.heap.size ≤ q → A q) (hKn : qKn G A s s.heap) (hret : ∀ (r : Int32) (q : qS) (o : qS) (d : qS) (tq : qS) (zs : (Nat → qS)) (H : Heap) (locs : List Loc) (ls : Array Slot) (pc : Nat), k r q o d tq zs → va_P G.1 vwCl (wQ G a q ++ (wO G a b ae g az o ++ (wD G g d ++ (wQ G ae tq ++ (wZ G az zs ++ R))))) H → va_D A (wQ G a q ++ (wO G a b ae g az o ++ (wD G g d ++ (wQ G ae tq ++ (wZ G az zs ++ R))))) → va_S A s.heap H locs → decode cX9_then pc = .ok (.ireturn, 1) → W p l e rmX9_then s m args below meth c H locs 0 0 Qf (F0 m pc ls [.int r])) : ∀ (q : qS) (o : qS) (d : qS) (tq : qS) (zs : (Nat → qS)) (H : Heap) (locs : List Loc) (ls : Array Slot), wX9_then_b19 k q o d tq zs → va_P G.1 vwCl (wQ G a q ++ (wO G a b ae g az o ++ (wD G g d ++ (wQ G ae tq ++ (wZ G az zs ++ R))))) H → va_D A (wQ G a q ++ (wO G a b ae g az o ++ (wD G g d ++ (wQ G ae tq ++ (wZ G az zs ++ R))))) → va_S A s.heap H locs → lv_has ls 4 [] → W p l e rmX9_then s m args below meth c H locs 0 0 Qf (F0 m 19 ls []) := by
  intro q o d tq zs H locs ls h hP hD hS hl
  unfold wX9_then_b19 at h
  refine lv_bipush (v := (-2 : Int32)) hx hb dX9_then_19 (by decide) ?_
  exact hret _ _ _ _ _ _ _ _ _ _ h hP hD hS dX9_then_21
set_option maxHeartbeats 4000000 in
set_option maxRecDepth 100000 in
theorem mX9_then (l : Launch) (G : qG) (k : Int32 → qS → qS → qS → qS → (Nat → qS) → Prop) (R : va_W) (a : Nat → Nat) (b : Nat → Nat) (g : Nat → Nat) (ae : Nat → Nat) (az : Nat → Nat → Nat) (q : qS) (o : qS) (d : qS) (tq : qS) (zs : (Nat → qS)) (sz : Nat) (p0 : Int32) (p1 : Int32) : Met l yX9_then wsX9_then rmX9_then (qPc G [.ref (b 0), .int p0, .int p1] (wQ G a q ++ (wO G a b ae g az o ++ (wD G g d ++ (wQ G ae tq ++ (wZ G az zs ++ R))))) sz (wX9_then k q o d tq zs p0 p1)) (qQi G (wQ G a q ++ (wO G a b ae g az o ++ (wD G g d ++ (wQ G ae tq ++ (wZ G az zs ++ R))))) sz (fun (r : Int32) (u : qS × qS × qS × qS × (Nat → qS)) => k r u.1 u.2.1 u.2.2.1 u.2.2.2.1 u.2.2.2.2) (fun (u : qS × qS × qS × qS × (Nat → qS)) => wQ G a u.1 ++ (wO G a b ae g az u.2.1 ++ (wD G g u.2.2.1 ++ (wQ G ae u.2.2.2.1 ++ (wZ G az u.2.2.2.2 ++ R)))))) 0 0 (va_A (wQ G a q ++ (wO G a b ae g az o ++ (wD G g d ++ (wQ G ae tq ++ (wZ G az zs ++ R))))) sz) := by
  refine Met.ofW (cc := cX9_then) (maxL := 4) (ret := (some .int)) (by decide) rfl ?_
  intro p e s m args below meth c s₁ B hml hv
  obtain ⟨rfl, hsz, hP, hD0, hKn0, h⟩ := hv
  have hx := B.exec
  have hb := B.bytes
  have hr := B.returns
  have hts := atoms_spec (ws := wsX9_then) B.pre
  have hown : s.vm.findClass RX9 = some m.cls := findClass_of_methodNamed B.named
  have hlocks := B.notSynchronized
  subst hsz
  have hD := hD0.self (sz := s.heap.size)
  generalize hAe : va_A (wQ G a q ++ (wO G a b ae g az o ++ (wD G g d ++ (wQ G ae tq ++ (wZ G az zs ++ R))))) s.heap.size = A at hD hKn0 ⊢
  have hA : ∀ q : Nat, s.heap.size ≤ q → A q := fun q h => by rw [← hAe]; exact Or.inr h
  have hKn : qKn G A s s.heap := hKn0
  have hS : va_S A s.heap s.heap [] := va_S.rf
  have hret : ∀ (r : Int32) (q' : qS) (o' : qS) (d' : qS) (tq' : qS) (zs' : (Nat → qS)) (H : Heap) (locs : List Loc) (ls : Array Slot) (pc : Nat), k r q' o' d' tq' zs' → va_P G.1 vwCl (wQ G a q' ++ (wO G a b ae g az o' ++ (wD G g d' ++ (wQ G ae tq' ++ (wZ G az zs' ++ R))))) H → va_D A (wQ G a q' ++ (wO G a b ae g az o' ++ (wD G g d' ++ (wQ G ae tq' ++ (wZ G az zs' ++ R))))) → va_S A s.heap H locs → decode cX9_then pc = .ok (.ireturn, 1) → W p l e rmX9_then s m #[.ref (b 0), .int p0, .int p1] below meth c H locs 0 0 (MQ below (qQi G (wQ G a q ++ (wO G a b ae g az o ++ (wD G g d ++ (wQ G ae tq ++ (wZ G az zs ++ R))))) s.heap.size (fun (r : Int32) (u : qS × qS × qS × qS × (Nat → qS)) => k r u.1 u.2.1 u.2.2.1 u.2.2.2.1 u.2.2.2.2) (fun (u : qS × qS × qS × qS × (Nat → qS)) => wQ G a u.1 ++ (wO G a b ae g az u.2.1 ++ (wD G g u.2.2.1 ++ (wQ G ae u.2.2.2.1 ++ (wZ G az u.2.2.2.2 ++ R)))))) #[.ref (b 0), .int p0, .int p1] s 0 0 A) (F0 m pc ls [.int r]) := fun r q' o' d' tq' zs' H locs ls pc hk hP hD hS hd => W.iret hx hb hr (fun t ht hW => q_ri (u := (⟨q', o', d', tq', zs'⟩ : qS × qS × qS × qS × (Nat → qS))) hAe hk hP hD hS ht) hS.2.2 hd
  have hl := lv_entry ([.ref (b 0), .int p0, .int p1]) (n := 4) (Nat.le_of_ble_eq_true rfl)
  rw [lg_entry_eq]
  generalize (lg_sl ([.ref (b 0), .int p0, .int p1]) ++ List.replicate (4 - (lg_sl ([.ref (b 0), .int p0, .int p1])).length) Slot.unset).toArray = ls at hl ⊢
  have hl : lv_has ls 4 [(0, .ref (b 0)), (1, .int p0), (2, .int p1)] := hl
  unfold wX9_then at h
  show W p l e rmX9_then s m #[.ref (b 0), .int p0, .int p1] below meth c s.heap [] 0 0 _ _
  refine lv_iload_n hx hb dX9_then_0 rfl (lv_at hl 1 rfl) ?_
  refine lv_iconst (v := (1 : Int32)) hx hb dX9_then_1 (by decide) ?_
  refine lv_bipush (v := (30 : Int32)) hx hb dX9_then_2 (by decide) ?_
  refine qc_si (As := [.int p0, .int (1 : Int32), .int (30 : Int32)]) (rest := []) ⟨hx, hb, hml, hown, hts⟩ (mX9_within l G _ _ _ p0 (1 : Int32) (30 : Int32)) (cwS 3 hts gX9_then_X9_within rfl rfl rfl (by decide +kernel) ⟨Nat.le_of_ble_eq_true rfl, Nat.le_of_ble_eq_true rfl⟩) hP hD hS hA hKn h rfl hl.1 rfl (Nat.le_of_ble_eq_true rfl) dX9_then_4 ⟨Nat.zero_le _, Nat.zero_le _⟩ (fun r1 _ H locs h hP hD hS => ?_)
  have hP : va_P G.1 vwCl (wQ G a q ++ (wO G a b ae g az o ++ (wD G g d ++ (wQ G ae tq ++ (wZ G az zs ++ R))))) H := hP
  have hD : va_D A (wQ G a q ++ (wO G a b ae g az o ++ (wD G g d ++ (wQ G ae tq ++ (wZ G az zs ++ R))))) := hD
  refine lv_if_eq (tgt := 19) hx hb dX9_then_7 (by decide) (fun c1 => ?_) (fun c1 => ?_)
  · have h := h.1 c1
    exact kX9_then_b19 hx hb hml hown hts hA hKn hret q o d tq zs _ _ _ h hP hD hS (lv_sub hl [] rfl)
  · have h := h.2 c1
    refine lv_iload_n hx hb dX9_then_10 rfl (lv_at hl 2 rfl) ?_
    refine lv_iconst (v := (0 : Int32)) hx hb dX9_then_11 (by decide) ?_
    refine lv_iconst (v := (1 : Int32)) hx hb dX9_then_12 (by decide) ?_
    refine qc_si (As := [.int p1, .int (0 : Int32), .int (1 : Int32)]) (rest := []) ⟨hx, hb, hml, hown, hts⟩ (mX9_within l G _ _ _ p1 (0 : Int32) (1 : Int32)) (cwS 3 hts gX9_then_X9_within rfl rfl rfl (by decide +kernel) ⟨Nat.le_of_ble_eq_true rfl, Nat.le_of_ble_eq_true rfl⟩) hP hD hS hA hKn h rfl hl.1 rfl (Nat.le_of_ble_eq_true rfl) dX9_then_13 ⟨Nat.zero_le _, Nat.zero_le _⟩ (fun r2 _ H locs h hP hD hS => ?_)
    have hP : va_P G.1 vwCl (wQ G a q ++ (wO G a b ae g az o ++ (wD G g d ++ (wQ G ae tq ++ (wZ G az zs ++ R))))) H := hP
    have hD : va_D A (wQ G a q ++ (wO G a b ae g az o ++ (wD G g d ++ (wQ G ae tq ++ (wZ G az zs ++ R))))) := hD
    refine lv_if_ne (tgt := 22) hx hb dX9_then_16 (by decide) (fun c1 => ?_) (fun c1 => ?_)
    · have h := h.1 c1
      refine lv_aload_n hx hb dX9_then_22 rfl (lv_at hl 0 rfl) ?_
      refine va_get (D := G.1) (ci := 9) (v := .ref (ae 0)) (C := RX9) (T := TX9) (N := 5) hx hb hts iX9_then_X9 hown hKn.k hP 18 rfl rfl 1 (by decide) (hts _ lX9_then_f16) (fun _ h9 => h9) rfl dX9_then_23 ?_
      refine lv_aload_n hx hb dX9_then_26 rfl (lv_at hl 0 rfl) ?_
      refine va_get (D := G.1) (ci := 9) (v := .ref (a 0)) (C := RX9) (T := TX9) (N := 5) hx hb hts iX9_then_X9 hown hKn.k hP 18 rfl rfl 0 (by decide) (hts _ lX9_then_f10) (fun _ h9 => h9) rfl dX9_then_27 ?_
      obtain ⟨hP, hD⟩ := q_perm (((((List.perm_append_comm_assoc _ _ _).append_left _).trans (List.perm_append_comm_assoc _ _ _)).append_left _).trans (List.perm_append_comm_assoc _ _ _)) hP hD
      have hP : va_P G.1 vwCl (wQ G ae tq ++ (wQ G a q ++ (wO G a b ae g az o ++ (wD G g d ++ (wZ G az zs ++ R))))) H := hP
      have hD : va_D A (wQ G ae tq ++ (wQ G a q ++ (wO G a b ae g az o ++ (wD G g d ++ (wZ G az zs ++ R))))) := hD
      refine qc_vv (As := [.ref (a 0)]) (rest := []) ⟨hx, hb, hml, hown, hts⟩ (mX6_copyFrom l G _ _ ae a tq q _ ) (cwV 1 hts gX9_then_X6_copyFrom rfl rfl rfl (by decide +kernel) ⟨Nat.le_of_ble_eq_true rfl, Nat.le_of_ble_eq_true rfl⟩) hP hD hS hA hKn 0 6 rfl rfl rfl h rfl hl.1 rfl (Nat.le_of_ble_eq_true rfl) dX9_then_30 ⟨Nat.zero_le _, Nat.zero_le _⟩ (fun u H locs h hP hD hS => ?_)
      obtain ⟨tq4, q5⟩ := u
      have hP : va_P G.1 vwCl (wQ G ae tq4 ++ (wQ G a q5 ++ (wO G a b ae g az o ++ (wD G g d ++ (wZ G az zs ++ R))))) H := hP
      have hD : va_D A (wQ G ae tq4 ++ (wQ G a q5 ++ (wO G a b ae g az o ++ (wD G g d ++ (wZ G az zs ++ R))))) := hD
      obtain ⟨hP, hD⟩ := q_perm ((((((List.perm_append_comm_assoc _ _ _).append_left _).trans (List.perm_append_comm_assoc _ _ _)).append_left _).trans (List.perm_append_comm_assoc _ _ _))).symm hP hD
      have hP : va_P G.1 vwCl (wQ G a q5 ++ (wO G a b ae g az o ++ (wD G g d ++ (wQ G ae tq4 ++ (wZ G az zs ++ R))))) H := hP
      have hD : va_D A (wQ G a q5 ++ (wO G a b ae g az o ++ (wD G g d ++ (wQ G ae tq4 ++ (wZ G az zs ++ R))))) := hD
      refine lv_aload_n hx hb dX9_then_33 rfl (lv_at hl 0 rfl) ?_
      refine va_get (D := G.1) (ci := 9) (v := .ref (ae 0)) (C := RX9) (T := TX9) (N := 5) hx hb hts iX9_then_X9 hown hKn.k hP 18 rfl rfl 1 (by decide) (hts _ lX9_then_f16) (fun _ h9 => h9) rfl dX9_then_34 ?_
      refine lv_iload_n hx hb dX9_then_37 rfl (lv_at hl 1 rfl) ?_
      refine lv_iconst (v := (0 : Int32)) hx hb dX9_then_38 (by decide) ?_
      obtain ⟨hP, hD⟩ := q_perm (((((List.perm_append_comm_assoc _ _ _).append_left _).trans (List.perm_append_comm_assoc _ _ _)).append_left _).trans (List.perm_append_comm_assoc _ _ _)) hP hD
      have hP : va_P G.1 vwCl (wQ G ae tq4 ++ (wQ G a q5 ++ (wO G a b ae g az o ++ (wD G g d ++ (wZ G az zs ++ R))))) H := hP
      have hD : va_D A (wQ G ae tq4 ++ (wQ G a q5 ++ (wO G a b ae g az o ++ (wD G g d ++ (wZ G az zs ++ R))))) := hD
      refine qc_vi (As := [.int p0, .int (0 : Int32)]) (rest := []) ⟨hx, hb, hml, hown, hts⟩ (mX6_runDays l G _ _ ae tq4 _ p0 (0 : Int32)) (cwV 2 hts gX9_then_X6_runDays rfl rfl rfl (by decide +kernel) ⟨Nat.le_of_ble_eq_true rfl, Nat.le_of_ble_eq_true rfl⟩) hP hD hS hA hKn 0 6 rfl rfl rfl h rfl hl.1 rfl (Nat.le_of_ble_eq_true rfl) dX9_then_39 ⟨Nat.zero_le _, Nat.zero_le _⟩ (fun r6 tq7 H locs h hP hD hS => ?_)
      have hP : va_P G.1 vwCl (wQ G ae tq7 ++ (wQ G a q5 ++ (wO G a b ae g az o ++ (wD G g d ++ (wZ G az zs ++ R))))) H := hP
      have hD : va_D A (wQ G ae tq7 ++ (wQ G a q5 ++ (wO G a b ae g az o ++ (wD G g d ++ (wZ G az zs ++ R))))) := hD
      obtain ⟨hP, hD⟩ := q_perm ((((((List.perm_append_comm_assoc _ _ _).append_left _).trans (List.perm_append_comm_assoc _ _ _)).append_left _).trans (List.perm_append_comm_assoc _ _ _))).symm hP hD
      have hP : va_P G.1 vwCl (wQ G a q5 ++ (wO G a b ae g az o ++ (wD G g d ++ (wQ G ae tq7 ++ (wZ G az zs ++ R))))) H := hP
      have hD : va_D A (wQ G a q5 ++ (wO G a b ae g az o ++ (wD G g d ++ (wQ G ae tq7 ++ (wZ G az zs ++ R))))) := hD
      refine lv_istore_n (lv' := [(3, .int r6), (0, .ref (b 0)), (1, .int p0), (2, .int p1)]) hx hb dX9_then_42 rfl hl (by decide) rfl (fun ls hl => ?_)
      refine lv_iload_n hx hb dX9_then_43 rfl (lv_at hl 3 rfl) ?_
      refine lv_if_ne (tgt := 49) hx hb dX9_then_44 (by decide) (fun c1 => ?_) (fun c1 => ?_)
      · have h := h.1 c1
        refine lv_aload_n hx hb dX9_then_49 rfl (lv_at hl 1 rfl) ?_
        refine va_get (D := G.1) (ci := 9) (v := .ref (ae 0)) (C := RX9) (T := TX9) (N := 5) hx hb hts iX9_then_X9 hown hKn.k hP 18 rfl rfl 1 (by decide) (hts _ lX9_then_f16) (fun _ h9 => h9) rfl dX9_then_50 ?_
        refine va_get (D := G.1) (ci := 6) (v := .int (tq7 0 2)) (C := RX6) (T := TX6) (N := 10) hx hb hts iX9_then_X6 hown hKn.k hP 27 rfl rfl 8 (by decide) (hts _ lX9_then_f190) (fun _ h9 => h9) rfl dX9_then_53 ?_
        refine lv_aload_n hx hb dX9_then_56 rfl (lv_at hl 1 rfl) ?_
        refine va_get (D := G.1) (ci := 9) (v := .ref (a 0)) (C := RX9) (T := TX9) (N := 5) hx hb hts iX9_then_X9 hown hKn.k hP 18 rfl rfl 0 (by decide) (hts _ lX9_then_f10) (fun _ h9 => h9) rfl dX9_then_57 ?_
        refine va_get (D := G.1) (ci := 6) (v := .int (q5 0 2)) (C := RX6) (T := TX6) (N := 10) hx hb hts iX9_then_X6 hown hKn.k hP 0 rfl rfl 8 (by decide) (hts _ lX9_then_f190) (fun _ h9 => h9) rfl dX9_then_60 ?_
        refine lv_isub hx hb dX9_then_63 ?_
        refine lv_aload_n hx hb dX9_then_64 rfl (lv_at hl 1 rfl) ?_
        refine va_get (D := G.1) (ci := 9) (v := .ref (ae 0)) (C := RX9) (T := TX9) (N := 5) hx hb hts iX9_then_X9 hown hKn.k hP 18 rfl rfl 1 (by decide) (hts _ lX9_then_f16) (fun _ h9 => h9) rfl dX9_then_65 ?_
        refine va_get (D := G.1) (ci := 6) (v := .int (tq7 0 3)) (C := RX6) (T := TX6) (N := 10) hx hb hts iX9_then_X6 hown hKn.k hP 27 rfl rfl 9 (by decide) (hts _ lX9_then_f193) (fun _ h9 => h9) rfl dX9_then_68 ?_
        refine lv_aload_n hx hb dX9_then_71 rfl (lv_at hl 1 rfl) ?_
        refine va_get (D := G.1) (ci := 9) (v := .ref (a 0)) (C := RX9) (T := TX9) (N := 5) hx hb hts iX9_then_X9 hown hKn.k hP 18 rfl rfl 0 (by decide) (hts _ lX9_then_f10) (fun _ h9 => h9) rfl dX9_then_72 ?_
        refine va_get (D := G.1) (ci := 6) (v := .int (q5 0 3)) (C := RX6) (T := TX6) (N := 10) hx hb hts iX9_then_X6 hown hKn.k hP 0 rfl rfl 9 (by decide) (hts _ lX9_then_f193) (fun _ h9 => h9) rfl dX9_then_75 ?_
        refine lv_isub hx hb dX9_then_78 ?_
        refine lv_isub hx hb dX9_then_79 ?_
        refine lv_ldc (v := (1000000 : Int32)) hx hb hown (hts _ lX9_then_c207) dX9_then_80 ?_
        refine lv_iadd hx hb dX9_then_82 ?_
        exact hret _ _ _ _ _ _ _ _ _ _ h hP hD hS dX9_then_83
      · have h := h.2 c1
        refine lv_iload_n hx hb dX9_then_47 rfl (lv_at hl 0 rfl) ?_
        exact hret _ _ _ _ _ _ _ _ _ _ h hP hD hS dX9_then_48
    · have h := h.2 c1
      exact kX9_then_b19 hx hb hml hown hts hA hKn hret q o d tq zs _ _ _ h hP hD hS (lv_sub hl [] rfl)
abbrev rmX9_bestGap : Room := { frames := 5, cells := 0, slots := 0, locals := 115 }
theorem lX9_bestGap_f10 : Cond.fieldLink RX9 10 "QuarryBlends" "now" "LQuarryBlends$Quarry;" ∈ wsX9_bestGap := by decide +kernel
theorem lX9_bestGap_f113 : Cond.fieldLink RX9 113 "QuarryBlends$Quarry" "settings" "[I" ∈ wsX9_bestGap := by decide +kernel
theorem lX9_bestGap_f16 : Cond.fieldLink RX9 16 "QuarryBlends" "trial" "LQuarryBlends$Quarry;" ∈ wsX9_bestGap := by decide +kernel
theorem lX9_bestGap_f190 : Cond.fieldLink RX9 190 "QuarryBlends$Quarry" "paid" "I" ∈ wsX9_bestGap := by decide +kernel
theorem iX9_bestGap_X6 : ∀ w ∈ wsX60, w ∈ wsX9_bestGap := by decide +kernel
theorem iX9_bestGap_X9 : ∀ w ∈ wsX90, w ∈ wsX9_bestGap := by decide +kernel
set_option maxHeartbeats 4000000 in
set_option maxRecDepth 100000 in
theorem kX9_bestGap_b19 {p : Program} {l : Launch} {e : Env} {s : State} {m : MethodId} {args : Array Value} {below : List Frame} {meth : Method} {c : Code} {G : qG} {A : Nat → Prop} {Qf : State → Prop} {R : va_W} {a : Nat → Nat} {b : Nat → Nat} {g : Nat → Nat} {ae : Nat → Nat} {az : Nat → Nat → Nat} {k : Int32 → qS → qS → qS → qS → (Nat → qS) → Prop} (hx : p.tables.exec = Jvm.exec) (hb : c.code = cX9_bestGap) (hml : c.maxLocals = 6) (hown : s.vm.findClass RX9 = some m.cls) (hts : ∀ w ∈ wsX9_bestGap, w.before args s = true) (hA : ∀ q : Nat, s.heap.size ≤ q → A q) (hKn : qKn G A s s.heap) (hret : ∀ (r : Int32) (q : qS) (o : qS) (d : qS) (tq : qS) (zs : (Nat → qS)) (H : Heap) (locs : List Loc) (ls : Array Slot) (pc : Nat), k r q o d tq zs → va_P G.1 vwCl (wQ G a q ++ (wO G a b ae g az o ++ (wD G g d ++ (wQ G ae tq ++ (wZ G az zs ++ R))))) H → va_D A (wQ G a q ++ (wO G a b ae g az o ++ (wD G g d ++ (wQ G ae tq ++ (wZ G az zs ++ R))))) → va_S A s.heap H locs → decode cX9_bestGap pc = .ok (.ireturn, 1) → W p l e rmX9_bestGap s m args below meth c H locs 0 0 Qf (F0 m pc ls [.int r])) : ∀ (q : qS) (o : qS) (d : qS) (tq : qS) (zs : (Nat → qS)) (H : Heap) (locs : List Loc) (ls : Array Slot), wX9_bestGap_b19 k q o d tq zs → va_P G.1 vwCl (wQ G a q ++ (wO G a b ae g az o ++ (wD G g d ++ (wQ G ae tq ++ (wZ G az zs ++ R))))) H → va_D A (wQ G a q ++ (wO G a b ae g az o ++ (wD G g d ++ (wQ G ae tq ++ (wZ G az zs ++ R))))) → va_S A s.heap H locs → lv_has ls 6 [] → W p l e rmX9_bestGap s m args below meth c H locs 0 0 Qf (F0 m 19 ls []) := by
  intro q o d tq zs H locs ls h hP hD hS hl
  unfold wX9_bestGap_b19 at h
  refine lv_bipush (v := (-2 : Int32)) hx hb dX9_bestGap_19 (by decide) ?_
  exact hret _ _ _ _ _ _ _ _ _ _ h hP hD hS dX9_bestGap_21
set_option maxHeartbeats 4000000 in
set_option maxRecDepth 100000 in
theorem kX9_bestGap_b109 {p : Program} {l : Launch} {e : Env} {s : State} {m : MethodId} {args : Array Value} {below : List Frame} {meth : Method} {c : Code} {G : qG} {A : Nat → Prop} {Qf : State → Prop} {R : va_W} {a : Nat → Nat} {b : Nat → Nat} {g : Nat → Nat} {ae : Nat → Nat} {az : Nat → Nat → Nat} {k : Int32 → qS → qS → qS → qS → (Nat → qS) → Prop} (hx : p.tables.exec = Jvm.exec) (hb : c.code = cX9_bestGap) (hml : c.maxLocals = 6) (hown : s.vm.findClass RX9 = some m.cls) (hts : ∀ w ∈ wsX9_bestGap, w.before args s = true) (hA : ∀ q : Nat, s.heap.size ≤ q → A q) (hKn : qKn G A s s.heap) (hret : ∀ (r : Int32) (q : qS) (o : qS) (d : qS) (tq : qS) (zs : (Nat → qS)) (H : Heap) (locs : List Loc) (ls : Array Slot) (pc : Nat), k r q o d tq zs → va_P G.1 vwCl (wQ G a q ++ (wO G a b ae g az o ++ (wD G g d ++ (wQ G ae tq ++ (wZ G az zs ++ R))))) H → va_D A (wQ G a q ++ (wO G a b ae g az o ++ (wD G g d ++ (wQ G ae tq ++ (wZ G az zs ++ R))))) → va_S A s.heap H locs → decode cX9_bestGap pc = .ok (.ireturn, 1) → W p l e rmX9_bestGap s m args below meth c H locs 0 0 Qf (F0 m pc ls [.int r])) {kb30 : qS → qS → qS → qS → (Nat → qS) → Int32 → Int32 → Int32 → Int32 → Int32 → Prop} (hkb30 : ∀ (q : qS) (o : qS) (d : qS) (tq : qS) (zs : (Nat → qS)) (x1 : Int32) (x2 : Int32) (x3 : Int32) (x4 : Int32) (x5 : Int32) (H : Heap) (locs : List Loc) (ls : Array Slot), kb30 q o d tq zs x1 x2 x3 x4 x5 → va_P G.1 vwCl (wQ G a q ++ (wO G a b ae g az o ++ (wD G g d ++ (wQ G ae tq ++ (wZ G az zs ++ R))))) H → va_D A (wQ G a q ++ (wO G a b ae g az o ++ (wD G g d ++ (wQ G ae tq ++ (wZ G az zs ++ R))))) → va_S A s.heap H locs → lv_has ls 6 [(0, .ref (b 0)), (1, .int x1), (2, .int x2), (3, .int x3), (4, .int x4), (5, .int x5)] → W p l e rmX9_bestGap s m args below meth c H locs 0 0 Qf (F0 m 30 ls [])) : ∀ (q : qS) (o : qS) (d : qS) (tq : qS) (zs : (Nat → qS)) (x1 : Int32) (x2 : Int32) (x3 : Int32) (x4 : Int32) (x5 : Int32) (H : Heap) (locs : List Loc) (ls : Array Slot), wX9_bestGap_b109 k kb30 q o d tq zs x1 x2 x3 x4 x5 → va_P G.1 vwCl (wQ G a q ++ (wO G a b ae g az o ++ (wD G g d ++ (wQ G ae tq ++ (wZ G az zs ++ R))))) H → va_D A (wQ G a q ++ (wO G a b ae g az o ++ (wD G g d ++ (wQ G ae tq ++ (wZ G az zs ++ R))))) → va_S A s.heap H locs → lv_has ls 6 [(0, .ref (b 0)), (1, .int x1), (2, .int x2), (3, .int x3), (4, .int x4), (5, .int x5)] → W p l e rmX9_bestGap s m args below meth c H locs 0 0 Qf (F0 m 109 ls []) := by
  intro q o d tq zs x1 x2 x3 x4 x5 H locs ls h hP hD hS hl
  unfold wX9_bestGap_b109 at h
  obtain ⟨y1, ey1⟩ : ∃ z : Int32, z = x5 + (1 : Int32) := ⟨_, rfl⟩
  have h := h y1 ey1
  refine lv_iinc (v := y1) (lv' := [(5, .int y1), (0, .ref (b 0)), (1, .int x1), (2, .int x2), (3, .int x3), (4, .int x4)]) hx hb dX9_bestGap_109 hl (k := 5) rfl (by rw [ey1]; rfl) (by decide) rfl (fun ls hl => ?_)
  refine lv_goto (tgt := 30) hx hb dX9_bestGap_112 (by decide) ?_
  exact hkb30 q o d tq zs x1 x2 x3 x4 y1 _ _ _ h hP hD hS (lv_sub hl [1, 2, 3, 4, 5, 0] rfl)
set_option maxHeartbeats 4000000 in
set_option maxRecDepth 100000 in
theorem kX9_bestGap_b125 {p : Program} {l : Launch} {e : Env} {s : State} {m : MethodId} {args : Array Value} {below : List Frame} {meth : Method} {c : Code} {G : qG} {A : Nat → Prop} {Qf : State → Prop} {R : va_W} {a : Nat → Nat} {b : Nat → Nat} {g : Nat → Nat} {ae : Nat → Nat} {az : Nat → Nat → Nat} {k : Int32 → qS → qS → qS → qS → (Nat → qS) → Prop} (hx : p.tables.exec = Jvm.exec) (hb : c.code = cX9_bestGap) (hml : c.maxLocals = 6) (hown : s.vm.findClass RX9 = some m.cls) (hts : ∀ w ∈ wsX9_bestGap, w.before args s = true) (hA : ∀ q : Nat, s.heap.size ≤ q → A q) (hKn : qKn G A s s.heap) (hret : ∀ (r : Int32) (q : qS) (o : qS) (d : qS) (tq : qS) (zs : (Nat → qS)) (H : Heap) (locs : List Loc) (ls : Array Slot) (pc : Nat), k r q o d tq zs → va_P G.1 vwCl (wQ G a q ++ (wO G a b ae g az o ++ (wD G g d ++ (wQ G ae tq ++ (wZ G az zs ++ R))))) H → va_D A (wQ G a q ++ (wO G a b ae g az o ++ (wD G g d ++ (wQ G ae tq ++ (wZ G az zs ++ R))))) → va_S A s.heap H locs → decode cX9_bestGap pc = .ok (.ireturn, 1) → W p l e rmX9_bestGap s m args below meth c H locs 0 0 Qf (F0 m pc ls [.int r])) : ∀ (q : qS) (o : qS) (d : qS) (tq : qS) (zs : (Nat → qS)) (z0 : Int32) (H : Heap) (locs : List Loc) (ls : Array Slot), wX9_bestGap_b125 k q o d tq zs z0 → va_P G.1 vwCl (wQ G a q ++ (wO G a b ae g az o ++ (wD G g d ++ (wQ G ae tq ++ (wZ G az zs ++ R))))) H → va_D A (wQ G a q ++ (wO G a b ae g az o ++ (wD G g d ++ (wQ G ae tq ++ (wZ G az zs ++ R))))) → va_S A s.heap H locs → lv_has ls 6 [] → W p l e rmX9_bestGap s m args below meth c H locs 0 0 Qf (F0 m 125 ls [.int z0]) := by
  intro q o d tq zs z0 H locs ls h hP hD hS hl
  unfold wX9_bestGap_b125 at h
  exact hret _ _ _ _ _ _ _ _ _ _ h hP hD hS dX9_bestGap_125
set_option maxHeartbeats 4000000 in
set_option maxRecDepth 100000 in
theorem kX9_bestGap_b30 {p : Program} {l : Launch} {e : Env} {s : State} {m : MethodId} {args : Array Value} {below : List Frame} {meth : Method} {c : Code} {G : qG} {A : Nat → Prop} {Qf : State → Prop} {R : va_W} {a : Nat → Nat} {b : Nat → Nat} {g : Nat → Nat} {ae : Nat → Nat} {az : Nat → Nat → Nat} {k : Int32 → qS → qS → qS → qS → (Nat → qS) → Prop} (hx : p.tables.exec = Jvm.exec) (hb : c.code = cX9_bestGap) (hml : c.maxLocals = 6) (hown : s.vm.findClass RX9 = some m.cls) (hts : ∀ w ∈ wsX9_bestGap, w.before args s = true) (hA : ∀ q : Nat, s.heap.size ≤ q → A q) (hKn : qKn G A s s.heap) (hret : ∀ (r : Int32) (q : qS) (o : qS) (d : qS) (tq : qS) (zs : (Nat → qS)) (H : Heap) (locs : List Loc) (ls : Array Slot) (pc : Nat), k r q o d tq zs → va_P G.1 vwCl (wQ G a q ++ (wO G a b ae g az o ++ (wD G g d ++ (wQ G ae tq ++ (wZ G az zs ++ R))))) H → va_D A (wQ G a q ++ (wO G a b ae g az o ++ (wD G g d ++ (wQ G ae tq ++ (wZ G az zs ++ R))))) → va_S A s.heap H locs → decode cX9_bestGap pc = .ok (.ireturn, 1) → W p l e rmX9_bestGap s m args below meth c H locs 0 0 Qf (F0 m pc ls [.int r])) : ∀ (n : Nat) (q : qS) (o : qS) (d : qS) (tq : qS) (zs : (Nat → qS)) (x1 : Int32) (x2 : Int32) (x3 : Int32) (x4 : Int32) (x5 : Int32) (H : Heap) (locs : List Loc) (ls : Array Slot), wX9_bestGap_b30 k n q o d tq zs x1 x2 x3 x4 x5 → va_P G.1 vwCl (wQ G a q ++ (wO G a b ae g az o ++ (wD G g d ++ (wQ G ae tq ++ (wZ G az zs ++ R))))) H → va_D A (wQ G a q ++ (wO G a b ae g az o ++ (wD G g d ++ (wQ G ae tq ++ (wZ G az zs ++ R))))) → va_S A s.heap H locs → lv_has ls 6 [(0, .ref (b 0)), (1, .int x1), (2, .int x2), (3, .int x3), (4, .int x4), (5, .int x5)] → W p l e rmX9_bestGap s m args below meth c H locs 0 0 Qf (F0 m 30 ls []) := by
  intro n
  induction n with
  | zero => intros; rename_i h _ _ _ _; exact h.elim
  | succ n ih =>
    intro q o d tq zs x1 x2 x3 x4 x5 H locs ls h hP hD hS hl
    unfold wX9_bestGap_b30 at h
    refine lv_iload hx hb dX9_bestGap_30 (lv_at hl 5 rfl) ?_
    refine lv_bipush (v := (9 : Int32)) hx hb dX9_bestGap_32 (by decide) ?_
    refine lv_icmp_gt (tgt := 115) hx hb dX9_bestGap_34 (by decide) (fun c1 => ?_) (fun c1 => ?_)
    · have h := h.1 c1
      refine lv_iload_n hx hb dX9_bestGap_115 rfl (lv_at hl 2 rfl) ?_
      refine lv_if_ne (tgt := 123) hx hb dX9_bestGap_116 (by decide) (fun c1 => ?_) (fun c1 => ?_)
      · have h := h.1 c1
        refine lv_iload hx hb dX9_bestGap_123 (lv_at hl 4 rfl) ?_
        exact kX9_bestGap_b125 hx hb hml hown hts hA hKn hret q o d tq zs x4 _ _ _ h hP hD hS (lv_sub hl [] rfl)
      · have h := h.2 c1
        refine lv_iload_n hx hb dX9_bestGap_119 rfl (lv_at hl 3 rfl) ?_
        refine lv_goto (tgt := 125) hx hb dX9_bestGap_120 (by decide) ?_
        exact kX9_bestGap_b125 hx hb hml hown hts hA hKn hret q o d tq zs x3 _ _ _ h hP hD hS (lv_sub hl [] rfl)
    · have h := h.2 c1
      refine lv_aload_n hx hb dX9_bestGap_37 rfl (lv_at hl 0 rfl) ?_
      refine va_get (D := G.1) (ci := 9) (v := .ref (ae 0)) (C := RX9) (T := TX9) (N := 5) hx hb hts iX9_bestGap_X9 hown hKn.k hP 18 rfl rfl 1 (by decide) (hts _ lX9_bestGap_f16) (fun _ h9 => h9) rfl dX9_bestGap_38 ?_
      refine lv_aload_n hx hb dX9_bestGap_41 rfl (lv_at hl 0 rfl) ?_
      refine va_get (D := G.1) (ci := 9) (v := .ref (a 0)) (C := RX9) (T := TX9) (N := 5) hx hb hts iX9_bestGap_X9 hown hKn.k hP 18 rfl rfl 0 (by decide) (hts _ lX9_bestGap_f10) (fun _ h9 => h9) rfl dX9_bestGap_42 ?_
      obtain ⟨hP, hD⟩ := q_perm (((((List.perm_append_comm_assoc _ _ _).append_left _).trans (List.perm_append_comm_assoc _ _ _)).append_left _).trans (List.perm_append_comm_assoc _ _ _)) hP hD
      have hP : va_P G.1 vwCl (wQ G ae tq ++ (wQ G a q ++ (wO G a b ae g az o ++ (wD G g d ++ (wZ G az zs ++ R))))) H := hP
      have hD : va_D A (wQ G ae tq ++ (wQ G a q ++ (wO G a b ae g az o ++ (wD G g d ++ (wZ G az zs ++ R))))) := hD
      refine qc_vv (As := [.ref (a 0)]) (rest := []) ⟨hx, hb, hml, hown, hts⟩ (mX6_copyFrom l G _ _ ae a tq q _ ) (cwV 1 hts gX9_bestGap_X6_copyFrom rfl rfl rfl (by decide +kernel) ⟨Nat.le_of_ble_eq_true rfl, Nat.le_of_ble_eq_true rfl⟩) hP hD hS hA hKn 0 6 rfl rfl rfl h rfl hl.1 rfl (Nat.le_of_ble_eq_true rfl) dX9_bestGap_45 ⟨Nat.zero_le _, Nat.zero_le _⟩ (fun u H locs h hP hD hS => ?_)
      obtain ⟨tq3, q4⟩ := u
      have hP : va_P G.1 vwCl (wQ G ae tq3 ++ (wQ G a q4 ++ (wO G a b ae g az o ++ (wD G g d ++ (wZ G az zs ++ R))))) H := hP
      have hD : va_D A (wQ G ae tq3 ++ (wQ G a q4 ++ (wO G a b ae g az o ++ (wD G g d ++ (wZ G az zs ++ R))))) := hD
      obtain ⟨hP, hD⟩ := q_perm ((((((List.perm_append_comm_assoc _ _ _).append_left _).trans (List.perm_append_comm_assoc _ _ _)).append_left _).trans (List.perm_append_comm_assoc _ _ _))).symm hP hD
      have hP : va_P G.1 vwCl (wQ G a q4 ++ (wO G a b ae g az o ++ (wD G g d ++ (wQ G ae tq3 ++ (wZ G az zs ++ R))))) H := hP
      have hD : va_D A (wQ G a q4 ++ (wO G a b ae g az o ++ (wD G g d ++ (wQ G ae tq3 ++ (wZ G az zs ++ R))))) := hD
      refine lv_aload_n hx hb dX9_bestGap_48 rfl (lv_at hl 0 rfl) ?_
      refine va_get (D := G.1) (ci := 9) (v := .ref (ae 0)) (C := RX9) (T := TX9) (N := 5) hx hb hts iX9_bestGap_X9 hown hKn.k hP 18 rfl rfl 1 (by decide) (hts _ lX9_bestGap_f16) (fun _ h9 => h9) rfl dX9_bestGap_49 ?_
      refine va_get (D := G.1) (ci := 6) (v := .ref (ae 1)) (C := RX6) (T := TX6) (N := 10) hx hb hts iX9_bestGap_X6 hown hKn.k hP 27 rfl rfl 0 (by decide) (hts _ lX9_bestGap_f113) (fun _ h9 => h9) rfl dX9_bestGap_52 ?_
      refine lv_iconst (v := (3 : Int32)) hx hb dX9_bestGap_55 (by decide) ?_
      refine lv_iload hx hb dX9_bestGap_56 (lv_at hl 5 rfl) ?_
      refine va_iast hx hb hKn.k hP hD hS 28 0 rfl rfl (by unfold vp_in; decide) dX9_bestGap_58 (fun H locs hP hD hS => ?_)
      obtain ⟨tq5, etq5⟩ : ∃ z : qS, z = up2 tq3 1 3 x5 := ⟨_, rfl⟩
      have hP : va_P G.1 vwCl (wQ G a q4 ++ (wO G a b ae g az o ++ (wD G g d ++ (wQ G ae tq5 ++ (wZ G az zs ++ R))))) H := by rw [etq5]; exact hP
      have hD : va_D A (wQ G a q4 ++ (wO G a b ae g az o ++ (wD G g d ++ (wQ G ae tq5 ++ (wZ G az zs ++ R))))) := by rw [etq5]; exact hD
      have h := h tq5 etq5
      refine lv_aload_n hx hb dX9_bestGap_59 rfl (lv_at hl 0 rfl) ?_
      refine va_get (D := G.1) (ci := 9) (v := .ref (ae 0)) (C := RX9) (T := TX9) (N := 5) hx hb hts iX9_bestGap_X9 hown hKn.k hP 18 rfl rfl 1 (by decide) (hts _ lX9_bestGap_f16) (fun _ h9 => h9) rfl dX9_bestGap_60 ?_
      refine lv_iload_n hx hb dX9_bestGap_63 rfl (lv_at hl 1 rfl) ?_
      refine lv_iconst (v := (1 : Int32)) hx hb dX9_bestGap_64 (by decide) ?_
      obtain ⟨hP, hD⟩ := q_perm (((((List.perm_append_comm_assoc _ _ _).append_left _).trans (List.perm_append_comm_assoc _ _ _)).append_left _).trans (List.perm_append_comm_assoc _ _ _)) hP hD
      have hP : va_P G.1 vwCl (wQ G ae tq5 ++ (wQ G a q4 ++ (wO G a b ae g az o ++ (wD G g d ++ (wZ G az zs ++ R))))) H := hP
      have hD : va_D A (wQ G ae tq5 ++ (wQ G a q4 ++ (wO G a b ae g az o ++ (wD G g d ++ (wZ G az zs ++ R))))) := hD
      refine qc_vi (As := [.int x1, .int (1 : Int32)]) (rest := []) ⟨hx, hb, hml, hown, hts⟩ (mX6_runDays l G _ _ ae tq5 _ x1 (1 : Int32)) (cwV 2 hts gX9_bestGap_X6_runDays rfl rfl rfl (by decide +kernel) ⟨Nat.le_of_ble_eq_true rfl, Nat.le_of_ble_eq_true rfl⟩) hP hD hS hA hKn 0 6 rfl rfl rfl h rfl hl.1 rfl (Nat.le_of_ble_eq_true rfl) dX9_bestGap_65 ⟨Nat.zero_le _, Nat.zero_le _⟩ (fun r6 tq7 H locs h hP hD hS => ?_)
      have hP : va_P G.1 vwCl (wQ G ae tq7 ++ (wQ G a q4 ++ (wO G a b ae g az o ++ (wD G g d ++ (wZ G az zs ++ R))))) H := hP
      have hD : va_D A (wQ G ae tq7 ++ (wQ G a q4 ++ (wO G a b ae g az o ++ (wD G g d ++ (wZ G az zs ++ R))))) := hD
      obtain ⟨hP, hD⟩ := q_perm ((((((List.perm_append_comm_assoc _ _ _).append_left _).trans (List.perm_append_comm_assoc _ _ _)).append_left _).trans (List.perm_append_comm_assoc _ _ _))).symm hP hD
      have hP : va_P G.1 vwCl (wQ G a q4 ++ (wO G a b ae g az o ++ (wD G g d ++ (wQ G ae tq7 ++ (wZ G az zs ++ R))))) H := hP
      have hD : va_D A (wQ G a q4 ++ (wO G a b ae g az o ++ (wD G g d ++ (wQ G ae tq7 ++ (wZ G az zs ++ R))))) := hD
      refine lv_pop hx hb dX9_bestGap_68 rfl ?_
      refine lv_aload_n hx hb dX9_bestGap_69 rfl (lv_at hl 0 rfl) ?_
      refine va_get (D := G.1) (ci := 9) (v := .ref (ae 0)) (C := RX9) (T := TX9) (N := 5) hx hb hts iX9_bestGap_X9 hown hKn.k hP 18 rfl rfl 1 (by decide) (hts _ lX9_bestGap_f16) (fun _ h9 => h9) rfl dX9_bestGap_70 ?_
      refine va_get (D := G.1) (ci := 6) (v := .int (tq7 0 2)) (C := RX6) (T := TX6) (N := 10) hx hb hts iX9_bestGap_X6 hown hKn.k hP 27 rfl rfl 8 (by decide) (hts _ lX9_bestGap_f190) (fun _ h9 => h9) rfl dX9_bestGap_73 ?_
      refine lv_aload_n hx hb dX9_bestGap_76 rfl (lv_at hl 0 rfl) ?_
      refine va_get (D := G.1) (ci := 9) (v := .ref (a 0)) (C := RX9) (T := TX9) (N := 5) hx hb hts iX9_bestGap_X9 hown hKn.k hP 18 rfl rfl 0 (by decide) (hts _ lX9_bestGap_f10) (fun _ h9 => h9) rfl dX9_bestGap_77 ?_
      refine va_get (D := G.1) (ci := 6) (v := .int (q4 0 2)) (C := RX6) (T := TX6) (N := 10) hx hb hts iX9_bestGap_X6 hown hKn.k hP 0 rfl rfl 8 (by decide) (hts _ lX9_bestGap_f190) (fun _ h9 => h9) rfl dX9_bestGap_80 ?_
      refine lv_isub hx hb dX9_bestGap_83 ?_
      refine lv_iload hx hb dX9_bestGap_84 (lv_at hl 4 rfl) ?_
      refine lv_icmp_le (tgt := 109) hx hb dX9_bestGap_86 (by decide) (fun c1 => ?_) (fun c1 => ?_)
      · have h := h.1 c1
        exact kX9_bestGap_b109 hx hb hml hown hts hA hKn hret ih q4 o d tq7 zs x1 x2 x3 x4 x5 _ _ _ h hP hD hS (lv_sub hl [0, 1, 2, 3, 4, 5] rfl)
      · have h := h.2 c1
        refine lv_aload_n hx hb dX9_bestGap_89 rfl (lv_at hl 0 rfl) ?_
        refine va_get (D := G.1) (ci := 9) (v := .ref (ae 0)) (C := RX9) (T := TX9) (N := 5) hx hb hts iX9_bestGap_X9 hown hKn.k hP 18 rfl rfl 1 (by decide) (hts _ lX9_bestGap_f16) (fun _ h9 => h9) rfl dX9_bestGap_90 ?_
        refine va_get (D := G.1) (ci := 6) (v := .int (tq7 0 2)) (C := RX6) (T := TX6) (N := 10) hx hb hts iX9_bestGap_X6 hown hKn.k hP 27 rfl rfl 8 (by decide) (hts _ lX9_bestGap_f190) (fun _ h9 => h9) rfl dX9_bestGap_93 ?_
        refine lv_aload_n hx hb dX9_bestGap_96 rfl (lv_at hl 0 rfl) ?_
        refine va_get (D := G.1) (ci := 9) (v := .ref (a 0)) (C := RX9) (T := TX9) (N := 5) hx hb hts iX9_bestGap_X9 hown hKn.k hP 18 rfl rfl 0 (by decide) (hts _ lX9_bestGap_f10) (fun _ h9 => h9) rfl dX9_bestGap_97 ?_
        refine va_get (D := G.1) (ci := 6) (v := .int (q4 0 2)) (C := RX6) (T := TX6) (N := 10) hx hb hts iX9_bestGap_X6 hown hKn.k hP 0 rfl rfl 8 (by decide) (hts _ lX9_bestGap_f190) (fun _ h9 => h9) rfl dX9_bestGap_100 ?_
        refine lv_isub hx hb dX9_bestGap_103 ?_
        refine lv_topi (fun y8 ey8 => ?_)
        have h := h y8 ey8
        refine lv_istore (lv' := [(4, .int y8), (0, .ref (b 0)), (1, .int x1), (2, .int x2), (3, .int x3), (5, .int x5)]) hx hb dX9_bestGap_104 hl (by decide) rfl (fun ls hl => ?_)
        refine lv_iload hx hb dX9_bestGap_106 (lv_at hl 5 rfl) ?_
        refine lv_istore_n (lv' := [(3, .int x5), (4, .int y8), (0, .ref (b 0)), (1, .int x1), (2, .int x2), (5, .int x5)]) hx hb dX9_bestGap_108 rfl hl (by decide) rfl (fun ls hl => ?_)
        exact kX9_bestGap_b109 hx hb hml hown hts hA hKn hret ih q4 o d tq7 zs x1 x2 x5 y8 x5 _ _ _ h hP hD hS (lv_sub hl [2, 3, 4, 0, 1, 5] rfl)
set_option maxHeartbeats 4000000 in
set_option maxRecDepth 100000 in
theorem mX9_bestGap (l : Launch) (G : qG) (k : Int32 → qS → qS → qS → qS → (Nat → qS) → Prop) (R : va_W) (a : Nat → Nat) (b : Nat → Nat) (g : Nat → Nat) (ae : Nat → Nat) (az : Nat → Nat → Nat) (q : qS) (o : qS) (d : qS) (tq : qS) (zs : (Nat → qS)) (sz : Nat) (p0 : Int32) (p1 : Int32) : Met l yX9_bestGap wsX9_bestGap rmX9_bestGap (qPc G [.ref (b 0), .int p0, .int p1] (wQ G a q ++ (wO G a b ae g az o ++ (wD G g d ++ (wQ G ae tq ++ (wZ G az zs ++ R))))) sz (wX9_bestGap k q o d tq zs p0 p1)) (qQi G (wQ G a q ++ (wO G a b ae g az o ++ (wD G g d ++ (wQ G ae tq ++ (wZ G az zs ++ R))))) sz (fun (r : Int32) (u : qS × qS × qS × qS × (Nat → qS)) => k r u.1 u.2.1 u.2.2.1 u.2.2.2.1 u.2.2.2.2) (fun (u : qS × qS × qS × qS × (Nat → qS)) => wQ G a u.1 ++ (wO G a b ae g az u.2.1 ++ (wD G g u.2.2.1 ++ (wQ G ae u.2.2.2.1 ++ (wZ G az u.2.2.2.2 ++ R)))))) 0 0 (va_A (wQ G a q ++ (wO G a b ae g az o ++ (wD G g d ++ (wQ G ae tq ++ (wZ G az zs ++ R))))) sz) := by
  refine Met.ofW (cc := cX9_bestGap) (maxL := 6) (ret := (some .int)) (by decide) rfl ?_
  intro p e s m args below meth c s₁ B hml hv
  obtain ⟨rfl, hsz, hP, hD0, hKn0, h⟩ := hv
  have hx := B.exec
  have hb := B.bytes
  have hr := B.returns
  have hts := atoms_spec (ws := wsX9_bestGap) B.pre
  have hown : s.vm.findClass RX9 = some m.cls := findClass_of_methodNamed B.named
  have hlocks := B.notSynchronized
  subst hsz
  have hD := hD0.self (sz := s.heap.size)
  generalize hAe : va_A (wQ G a q ++ (wO G a b ae g az o ++ (wD G g d ++ (wQ G ae tq ++ (wZ G az zs ++ R))))) s.heap.size = A at hD hKn0 ⊢
  have hA : ∀ q : Nat, s.heap.size ≤ q → A q := fun q h => by rw [← hAe]; exact Or.inr h
  have hKn : qKn G A s s.heap := hKn0
  have hS : va_S A s.heap s.heap [] := va_S.rf
  have hret : ∀ (r : Int32) (q' : qS) (o' : qS) (d' : qS) (tq' : qS) (zs' : (Nat → qS)) (H : Heap) (locs : List Loc) (ls : Array Slot) (pc : Nat), k r q' o' d' tq' zs' → va_P G.1 vwCl (wQ G a q' ++ (wO G a b ae g az o' ++ (wD G g d' ++ (wQ G ae tq' ++ (wZ G az zs' ++ R))))) H → va_D A (wQ G a q' ++ (wO G a b ae g az o' ++ (wD G g d' ++ (wQ G ae tq' ++ (wZ G az zs' ++ R))))) → va_S A s.heap H locs → decode cX9_bestGap pc = .ok (.ireturn, 1) → W p l e rmX9_bestGap s m #[.ref (b 0), .int p0, .int p1] below meth c H locs 0 0 (MQ below (qQi G (wQ G a q ++ (wO G a b ae g az o ++ (wD G g d ++ (wQ G ae tq ++ (wZ G az zs ++ R))))) s.heap.size (fun (r : Int32) (u : qS × qS × qS × qS × (Nat → qS)) => k r u.1 u.2.1 u.2.2.1 u.2.2.2.1 u.2.2.2.2) (fun (u : qS × qS × qS × qS × (Nat → qS)) => wQ G a u.1 ++ (wO G a b ae g az u.2.1 ++ (wD G g u.2.2.1 ++ (wQ G ae u.2.2.2.1 ++ (wZ G az u.2.2.2.2 ++ R)))))) #[.ref (b 0), .int p0, .int p1] s 0 0 A) (F0 m pc ls [.int r]) := fun r q' o' d' tq' zs' H locs ls pc hk hP hD hS hd => W.iret hx hb hr (fun t ht hW => q_ri (u := (⟨q', o', d', tq', zs'⟩ : qS × qS × qS × qS × (Nat → qS))) hAe hk hP hD hS ht) hS.2.2 hd
  have hl := lv_entry ([.ref (b 0), .int p0, .int p1]) (n := 6) (Nat.le_of_ble_eq_true rfl)
  rw [lg_entry_eq]
  generalize (lg_sl ([.ref (b 0), .int p0, .int p1]) ++ List.replicate (6 - (lg_sl ([.ref (b 0), .int p0, .int p1])).length) Slot.unset).toArray = ls at hl ⊢
  have hl : lv_has ls 6 [(0, .ref (b 0)), (1, .int p0), (2, .int p1)] := hl
  unfold wX9_bestGap at h
  show W p l e rmX9_bestGap s m #[.ref (b 0), .int p0, .int p1] below meth c s.heap [] 0 0 _ _
  refine lv_iload_n hx hb dX9_bestGap_0 rfl (lv_at hl 1 rfl) ?_
  refine lv_iconst (v := (1 : Int32)) hx hb dX9_bestGap_1 (by decide) ?_
  refine lv_bipush (v := (30 : Int32)) hx hb dX9_bestGap_2 (by decide) ?_
  refine qc_si (As := [.int p0, .int (1 : Int32), .int (30 : Int32)]) (rest := []) ⟨hx, hb, hml, hown, hts⟩ (mX9_within l G _ _ _ p0 (1 : Int32) (30 : Int32)) (cwS 3 hts gX9_bestGap_X9_within rfl rfl rfl (by decide +kernel) ⟨Nat.le_of_ble_eq_true rfl, Nat.le_of_ble_eq_true rfl⟩) hP hD hS hA hKn h rfl hl.1 rfl (Nat.le_of_ble_eq_true rfl) dX9_bestGap_4 ⟨Nat.zero_le _, Nat.zero_le _⟩ (fun r9 _ H locs h hP hD hS => ?_)
  have hP : va_P G.1 vwCl (wQ G a q ++ (wO G a b ae g az o ++ (wD G g d ++ (wQ G ae tq ++ (wZ G az zs ++ R))))) H := hP
  have hD : va_D A (wQ G a q ++ (wO G a b ae g az o ++ (wD G g d ++ (wQ G ae tq ++ (wZ G az zs ++ R))))) := hD
  refine lv_if_eq (tgt := 19) hx hb dX9_bestGap_7 (by decide) (fun c1 => ?_) (fun c1 => ?_)
  · have h := h.1 c1
    exact kX9_bestGap_b19 hx hb hml hown hts hA hKn hret q o d tq zs _ _ _ h hP hD hS (lv_sub hl [] rfl)
  · have h := h.2 c1
    refine lv_iload_n hx hb dX9_bestGap_10 rfl (lv_at hl 2 rfl) ?_
    refine lv_iconst (v := (0 : Int32)) hx hb dX9_bestGap_11 (by decide) ?_
    refine lv_iconst (v := (1 : Int32)) hx hb dX9_bestGap_12 (by decide) ?_
    refine qc_si (As := [.int p1, .int (0 : Int32), .int (1 : Int32)]) (rest := []) ⟨hx, hb, hml, hown, hts⟩ (mX9_within l G _ _ _ p1 (0 : Int32) (1 : Int32)) (cwS 3 hts gX9_bestGap_X9_within rfl rfl rfl (by decide +kernel) ⟨Nat.le_of_ble_eq_true rfl, Nat.le_of_ble_eq_true rfl⟩) hP hD hS hA hKn h rfl hl.1 rfl (Nat.le_of_ble_eq_true rfl) dX9_bestGap_13 ⟨Nat.zero_le _, Nat.zero_le _⟩ (fun r10 _ H locs h hP hD hS => ?_)
    have hP : va_P G.1 vwCl (wQ G a q ++ (wO G a b ae g az o ++ (wD G g d ++ (wQ G ae tq ++ (wZ G az zs ++ R))))) H := hP
    have hD : va_D A (wQ G a q ++ (wO G a b ae g az o ++ (wD G g d ++ (wQ G ae tq ++ (wZ G az zs ++ R))))) := hD
    refine lv_if_ne (tgt := 22) hx hb dX9_bestGap_16 (by decide) (fun c1 => ?_) (fun c1 => ?_)
    · have h := h.1 c1
      refine lv_iconst (v := (1 : Int32)) hx hb dX9_bestGap_22 (by decide) ?_
      refine lv_istore_n (lv' := [(3, .int (1 : Int32)), (0, .ref (b 0)), (1, .int p0), (2, .int p1)]) hx hb dX9_bestGap_23 rfl hl (by decide) rfl (fun ls hl => ?_)
      refine lv_iconst (v := (-1 : Int32)) hx hb dX9_bestGap_24 (by decide) ?_
      refine lv_istore (lv' := [(4, .int (-1 : Int32)), (3, .int (1 : Int32)), (0, .ref (b 0)), (1, .int p0), (2, .int p1)]) hx hb dX9_bestGap_25 hl (by decide) rfl (fun ls hl => ?_)
      refine lv_iconst (v := (1 : Int32)) hx hb dX9_bestGap_27 (by decide) ?_
      refine lv_istore (lv' := [(5, .int (1 : Int32)), (4, .int (-1 : Int32)), (3, .int (1 : Int32)), (0, .ref (b 0)), (1, .int p0), (2, .int p1)]) hx hb dX9_bestGap_28 hl (by decide) rfl (fun ls hl => ?_)
      obtain ⟨n11, h⟩ := h
      exact kX9_bestGap_b30 hx hb hml hown hts hA hKn hret n11 q o d tq zs p0 p1 (1 : Int32) (-1 : Int32) (1 : Int32) _ _ _ h hP hD hS (lv_sub hl [3, 4, 5, 2, 1, 0] rfl)
    · have h := h.2 c1
      exact kX9_bestGap_b19 hx hb hml hown hts hA hKn hret q o d tq zs _ _ _ h hP hD hS (lv_sub hl [] rfl)
abbrev rmX9_leastTrucks : Room := { frames := 5, cells := 0, slots := 0, locals := 115 }
theorem lX9_leastTrucks_f10 : Cond.fieldLink RX9 10 "QuarryBlends" "now" "LQuarryBlends$Quarry;" ∈ wsX9_leastTrucks := by decide +kernel
theorem lX9_leastTrucks_f101 : Cond.fieldLink RX9 101 "QuarryBlends$Quarry" "trucks" "LQuarryBlends$Trucks;" ∈ wsX9_leastTrucks := by decide +kernel
theorem lX9_leastTrucks_f113 : Cond.fieldLink RX9 113 "QuarryBlends$Quarry" "settings" "[I" ∈ wsX9_leastTrucks := by decide +kernel
theorem lX9_leastTrucks_f16 : Cond.fieldLink RX9 16 "QuarryBlends" "trial" "LQuarryBlends$Quarry;" ∈ wsX9_leastTrucks := by decide +kernel
theorem lX9_leastTrucks_f171 : Cond.fieldLink RX9 171 "QuarryBlends$Contracts" "amount" "I" ∈ wsX9_leastTrucks := by decide +kernel
theorem lX9_leastTrucks_f62 : Cond.fieldLink RX9 62 "QuarryBlends$Quarry" "contracts" "LQuarryBlends$Contracts;" ∈ wsX9_leastTrucks := by decide +kernel
theorem iX9_leastTrucks_X1 : ∀ w ∈ wsX10, w ∈ wsX9_leastTrucks := by decide +kernel
theorem iX9_leastTrucks_X6 : ∀ w ∈ wsX60, w ∈ wsX9_leastTrucks := by decide +kernel
theorem iX9_leastTrucks_X9 : ∀ w ∈ wsX90, w ∈ wsX9_leastTrucks := by decide +kernel
set_option maxHeartbeats 4000000 in
set_option maxRecDepth 100000 in
theorem kX9_leastTrucks_b14 {p : Program} {l : Launch} {e : Env} {s : State} {m : MethodId} {args : Array Value} {below : List Frame} {meth : Method} {c : Code} {G : qG} {A : Nat → Prop} {Qf : State → Prop} {R : va_W} {a : Nat → Nat} {b : Nat → Nat} {g : Nat → Nat} {ae : Nat → Nat} {az : Nat → Nat → Nat} {k : Int32 → qS → qS → qS → qS → (Nat → qS) → Prop} (hx : p.tables.exec = Jvm.exec) (hb : c.code = cX9_leastTrucks) (hml : c.maxLocals = 4) (hown : s.vm.findClass RX9 = some m.cls) (hts : ∀ w ∈ wsX9_leastTrucks, w.before args s = true) (hA : ∀ q : Nat, s.heap.size ≤ q → A q) (hKn : qKn G A s s.heap) (hret : ∀ (r : Int32) (q : qS) (o : qS) (d : qS) (tq : qS) (zs : (Nat → qS)) (H : Heap) (locs : List Loc) (ls : Array Slot) (pc : Nat), k r q o d tq zs → va_P G.1 vwCl (wQ G a q ++ (wO G a b ae g az o ++ (wD G g d ++ (wQ G ae tq ++ (wZ G az zs ++ R))))) H → va_D A (wQ G a q ++ (wO G a b ae g az o ++ (wD G g d ++ (wQ G ae tq ++ (wZ G az zs ++ R))))) → va_S A s.heap H locs → decode cX9_leastTrucks pc = .ok (.ireturn, 1) → W p l e rmX9_leastTrucks s m args below meth c H locs 0 0 Qf (F0 m pc ls [.int r])) : ∀ (q : qS) (o : qS) (d : qS) (tq : qS) (zs : (Nat → qS)) (H : Heap) (locs : List Loc) (ls : Array Slot), wX9_leastTrucks_b14 k q o d tq zs → va_P G.1 vwCl (wQ G a q ++ (wO G a b ae g az o ++ (wD G g d ++ (wQ G ae tq ++ (wZ G az zs ++ R))))) H → va_D A (wQ G a q ++ (wO G a b ae g az o ++ (wD G g d ++ (wQ G ae tq ++ (wZ G az zs ++ R))))) → va_S A s.heap H locs → lv_has ls 4 [] → W p l e rmX9_leastTrucks s m args below meth c H locs 0 0 Qf (F0 m 14 ls []) := by
  intro q o d tq zs H locs ls h hP hD hS hl
  unfold wX9_leastTrucks_b14 at h
  refine lv_bipush (v := (-2 : Int32)) hx hb dX9_leastTrucks_14 (by decide) ?_
  exact hret _ _ _ _ _ _ _ _ _ _ h hP hD hS dX9_leastTrucks_16
set_option maxHeartbeats 4000000 in
set_option maxRecDepth 100000 in
theorem kX9_leastTrucks_b45 {p : Program} {l : Launch} {e : Env} {s : State} {m : MethodId} {args : Array Value} {below : List Frame} {meth : Method} {c : Code} {G : qG} {A : Nat → Prop} {Qf : State → Prop} {R : va_W} {a : Nat → Nat} {b : Nat → Nat} {g : Nat → Nat} {ae : Nat → Nat} {az : Nat → Nat → Nat} {k : Int32 → qS → qS → qS → qS → (Nat → qS) → Prop} (hx : p.tables.exec = Jvm.exec) (hb : c.code = cX9_leastTrucks) (hml : c.maxLocals = 4) (hown : s.vm.findClass RX9 = some m.cls) (hts : ∀ w ∈ wsX9_leastTrucks, w.before args s = true) (hA : ∀ q : Nat, s.heap.size ≤ q → A q) (hKn : qKn G A s s.heap) (hret : ∀ (r : Int32) (q : qS) (o : qS) (d : qS) (tq : qS) (zs : (Nat → qS)) (H : Heap) (locs : List Loc) (ls : Array Slot) (pc : Nat), k r q o d tq zs → va_P G.1 vwCl (wQ G a q ++ (wO G a b ae g az o ++ (wD G g d ++ (wQ G ae tq ++ (wZ G az zs ++ R))))) H → va_D A (wQ G a q ++ (wO G a b ae g az o ++ (wD G g d ++ (wQ G ae tq ++ (wZ G az zs ++ R))))) → va_S A s.heap H locs → decode cX9_leastTrucks pc = .ok (.ireturn, 1) → W p l e rmX9_leastTrucks s m args below meth c H locs 0 0 Qf (F0 m pc ls [.int r])) : ∀ (n : Nat) (q : qS) (o : qS) (d : qS) (tq : qS) (zs : (Nat → qS)) (x1 : Int32) (x2 : Int32) (x3 : Int32) (H : Heap) (locs : List Loc) (ls : Array Slot), wX9_leastTrucks_b45 k n q o d tq zs x1 x2 x3 → va_P G.1 vwCl (wQ G a q ++ (wO G a b ae g az o ++ (wD G g d ++ (wQ G ae tq ++ (wZ G az zs ++ R))))) H → va_D A (wQ G a q ++ (wO G a b ae g az o ++ (wD G g d ++ (wQ G ae tq ++ (wZ G az zs ++ R))))) → va_S A s.heap H locs → lv_has ls 4 [(0, .ref (b 0)), (1, .int x1), (2, .int x2), (3, .int x3)] → W p l e rmX9_leastTrucks s m args below meth c H locs 0 0 Qf (F0 m 45 ls []) := by
  intro n
  induction n with
  | zero => intros; rename_i h _ _ _ _; exact h.elim
  | succ n ih =>
    intro q o d tq zs x1 x2 x3 H locs ls h hP hD hS hl
    unfold wX9_leastTrucks_b45 at h
    refine lv_iload_n hx hb dX9_leastTrucks_45 rfl (lv_at hl 3 rfl) ?_
    refine lv_bipush (v := (20 : Int32)) hx hb dX9_leastTrucks_46 (by decide) ?_
    refine lv_icmp_gt (tgt := 93) hx hb dX9_leastTrucks_48 (by decide) (fun c1 => ?_) (fun c1 => ?_)
    · have h := h.1 c1
      refine lv_bipush (v := (-6 : Int32)) hx hb dX9_leastTrucks_93 (by decide) ?_
      exact hret _ _ _ _ _ _ _ _ _ _ h hP hD hS dX9_leastTrucks_95
    · have h := h.2 c1
      refine lv_aload_n hx hb dX9_leastTrucks_51 rfl (lv_at hl 0 rfl) ?_
      refine va_get (D := G.1) (ci := 9) (v := .ref (ae 0)) (C := RX9) (T := TX9) (N := 5) hx hb hts iX9_leastTrucks_X9 hown hKn.k hP 18 rfl rfl 1 (by decide) (hts _ lX9_leastTrucks_f16) (fun _ h9 => h9) rfl dX9_leastTrucks_52 ?_
      refine lv_aload_n hx hb dX9_leastTrucks_55 rfl (lv_at hl 0 rfl) ?_
      refine va_get (D := G.1) (ci := 9) (v := .ref (a 0)) (C := RX9) (T := TX9) (N := 5) hx hb hts iX9_leastTrucks_X9 hown hKn.k hP 18 rfl rfl 0 (by decide) (hts _ lX9_leastTrucks_f10) (fun _ h9 => h9) rfl dX9_leastTrucks_56 ?_
      obtain ⟨hP, hD⟩ := q_perm (((((List.perm_append_comm_assoc _ _ _).append_left _).trans (List.perm_append_comm_assoc _ _ _)).append_left _).trans (List.perm_append_comm_assoc _ _ _)) hP hD
      have hP : va_P G.1 vwCl (wQ G ae tq ++ (wQ G a q ++ (wO G a b ae g az o ++ (wD G g d ++ (wZ G az zs ++ R))))) H := hP
      have hD : va_D A (wQ G ae tq ++ (wQ G a q ++ (wO G a b ae g az o ++ (wD G g d ++ (wZ G az zs ++ R))))) := hD
      refine qc_vv (As := [.ref (a 0)]) (rest := []) ⟨hx, hb, hml, hown, hts⟩ (mX6_copyFrom l G _ _ ae a tq q _ ) (cwV 1 hts gX9_leastTrucks_X6_copyFrom rfl rfl rfl (by decide +kernel) ⟨Nat.le_of_ble_eq_true rfl, Nat.le_of_ble_eq_true rfl⟩) hP hD hS hA hKn 0 6 rfl rfl rfl h rfl hl.1 rfl (Nat.le_of_ble_eq_true rfl) dX9_leastTrucks_59 ⟨Nat.zero_le _, Nat.zero_le _⟩ (fun u H locs h hP hD hS => ?_)
      obtain ⟨tq2, q3⟩ := u
      have hP : va_P G.1 vwCl (wQ G ae tq2 ++ (wQ G a q3 ++ (wO G a b ae g az o ++ (wD G g d ++ (wZ G az zs ++ R))))) H := hP
      have hD : va_D A (wQ G ae tq2 ++ (wQ G a q3 ++ (wO G a b ae g az o ++ (wD G g d ++ (wZ G az zs ++ R))))) := hD
      obtain ⟨hP, hD⟩ := q_perm ((((((List.perm_append_comm_assoc _ _ _).append_left _).trans (List.perm_append_comm_assoc _ _ _)).append_left _).trans (List.perm_append_comm_assoc _ _ _))).symm hP hD
      have hP : va_P G.1 vwCl (wQ G a q3 ++ (wO G a b ae g az o ++ (wD G g d ++ (wQ G ae tq2 ++ (wZ G az zs ++ R))))) H := hP
      have hD : va_D A (wQ G a q3 ++ (wO G a b ae g az o ++ (wD G g d ++ (wQ G ae tq2 ++ (wZ G az zs ++ R))))) := hD
      refine lv_aload_n hx hb dX9_leastTrucks_62 rfl (lv_at hl 0 rfl) ?_
      refine va_get (D := G.1) (ci := 9) (v := .ref (ae 0)) (C := RX9) (T := TX9) (N := 5) hx hb hts iX9_leastTrucks_X9 hown hKn.k hP 18 rfl rfl 1 (by decide) (hts _ lX9_leastTrucks_f16) (fun _ h9 => h9) rfl dX9_leastTrucks_63 ?_
      refine va_get (D := G.1) (ci := 6) (v := .ref (ae 1)) (C := RX6) (T := TX6) (N := 10) hx hb hts iX9_leastTrucks_X6 hown hKn.k hP 27 rfl rfl 0 (by decide) (hts _ lX9_leastTrucks_f113) (fun _ h9 => h9) rfl dX9_leastTrucks_66 ?_
      refine lv_iconst (v := (0 : Int32)) hx hb dX9_leastTrucks_69 (by decide) ?_
      refine lv_iload_n hx hb dX9_leastTrucks_70 rfl (lv_at hl 3 rfl) ?_
      refine va_iast hx hb hKn.k hP hD hS 28 0 rfl rfl (by unfold vp_in; decide) dX9_leastTrucks_71 (fun H locs hP hD hS => ?_)
      obtain ⟨tq4, etq4⟩ : ∃ z : qS, z = up2 tq2 1 0 x3 := ⟨_, rfl⟩
      have hP : va_P G.1 vwCl (wQ G a q3 ++ (wO G a b ae g az o ++ (wD G g d ++ (wQ G ae tq4 ++ (wZ G az zs ++ R))))) H := by rw [etq4]; exact hP
      have hD : va_D A (wQ G a q3 ++ (wO G a b ae g az o ++ (wD G g d ++ (wQ G ae tq4 ++ (wZ G az zs ++ R))))) := by rw [etq4]; exact hD
      have h := h tq4 etq4
      refine lv_aload_n hx hb dX9_leastTrucks_72 rfl (lv_at hl 0 rfl) ?_
      refine va_get (D := G.1) (ci := 9) (v := .ref (ae 0)) (C := RX9) (T := TX9) (N := 5) hx hb hts iX9_leastTrucks_X9 hown hKn.k hP 18 rfl rfl 1 (by decide) (hts _ lX9_leastTrucks_f16) (fun _ h9 => h9) rfl dX9_leastTrucks_73 ?_
      refine lv_iload_n hx hb dX9_leastTrucks_76 rfl (lv_at hl 1 rfl) ?_
      refine lv_iconst (v := (1 : Int32)) hx hb dX9_leastTrucks_77 (by decide) ?_
      obtain ⟨hP, hD⟩ := q_perm (((((List.perm_append_comm_assoc _ _ _).append_left _).trans (List.perm_append_comm_assoc _ _ _)).append_left _).trans (List.perm_append_comm_assoc _ _ _)) hP hD
      have hP : va_P G.1 vwCl (wQ G ae tq4 ++ (wQ G a q3 ++ (wO G a b ae g az o ++ (wD G g d ++ (wZ G az zs ++ R))))) H := hP
      have hD : va_D A (wQ G ae tq4 ++ (wQ G a q3 ++ (wO G a b ae g az o ++ (wD G g d ++ (wZ G az zs ++ R))))) := hD
      refine qc_vi (As := [.int x1, .int (1 : Int32)]) (rest := []) ⟨hx, hb, hml, hown, hts⟩ (mX6_runDays l G _ _ ae tq4 _ x1 (1 : Int32)) (cwV 2 hts gX9_leastTrucks_X6_runDays rfl rfl rfl (by decide +kernel) ⟨Nat.le_of_ble_eq_true rfl, Nat.le_of_ble_eq_true rfl⟩) hP hD hS hA hKn 0 6 rfl rfl rfl h rfl hl.1 rfl (Nat.le_of_ble_eq_true rfl) dX9_leastTrucks_78 ⟨Nat.zero_le _, Nat.zero_le _⟩ (fun r5 tq6 H locs h hP hD hS => ?_)
      have hP : va_P G.1 vwCl (wQ G ae tq6 ++ (wQ G a q3 ++ (wO G a b ae g az o ++ (wD G g d ++ (wZ G az zs ++ R))))) H := hP
      have hD : va_D A (wQ G ae tq6 ++ (wQ G a q3 ++ (wO G a b ae g az o ++ (wD G g d ++ (wZ G az zs ++ R))))) := hD
      obtain ⟨hP, hD⟩ := q_perm ((((((List.perm_append_comm_assoc _ _ _).append_left _).trans (List.perm_append_comm_assoc _ _ _)).append_left _).trans (List.perm_append_comm_assoc _ _ _))).symm hP hD
      have hP : va_P G.1 vwCl (wQ G a q3 ++ (wO G a b ae g az o ++ (wD G g d ++ (wQ G ae tq6 ++ (wZ G az zs ++ R))))) H := hP
      have hD : va_D A (wQ G a q3 ++ (wO G a b ae g az o ++ (wD G g d ++ (wQ G ae tq6 ++ (wZ G az zs ++ R))))) := hD
      refine lv_iload_n hx hb dX9_leastTrucks_81 rfl (lv_at hl 2 rfl) ?_
      refine lv_icmp_lt (tgt := 87) hx hb dX9_leastTrucks_82 (by decide) (fun c1 => ?_) (fun c1 => ?_)
      · have h := h.1 c1
        obtain ⟨y7, ey7⟩ : ∃ z : Int32, z = x3 + (1 : Int32) := ⟨_, rfl⟩
        have h := h y7 ey7
        refine lv_iinc (v := y7) (lv' := [(3, .int y7), (0, .ref (b 0)), (1, .int x1), (2, .int x2)]) hx hb dX9_leastTrucks_87 hl (k := 3) rfl (by rw [ey7]; rfl) (by decide) rfl (fun ls hl => ?_)
        refine lv_goto (tgt := 45) hx hb dX9_leastTrucks_90 (by decide) ?_
        exact ih q3 o d tq6 zs x1 x2 y7 _ _ _ h hP hD hS (lv_sub hl [1, 2, 3, 0] rfl)
      · have h := h.2 c1
        refine lv_iload_n hx hb dX9_leastTrucks_85 rfl (lv_at hl 3 rfl) ?_
        exact hret _ _ _ _ _ _ _ _ _ _ h hP hD hS dX9_leastTrucks_86
set_option maxHeartbeats 4000000 in
set_option maxRecDepth 100000 in
theorem mX9_leastTrucks (l : Launch) (G : qG) (k : Int32 → qS → qS → qS → qS → (Nat → qS) → Prop) (R : va_W) (a : Nat → Nat) (b : Nat → Nat) (g : Nat → Nat) (ae : Nat → Nat) (az : Nat → Nat → Nat) (q : qS) (o : qS) (d : qS) (tq : qS) (zs : (Nat → qS)) (sz : Nat) (p0 : Int32) (p1 : Int32) : Met l yX9_leastTrucks wsX9_leastTrucks rmX9_leastTrucks (qPc G [.ref (b 0), .int p0, .int p1] (wQ G a q ++ (wO G a b ae g az o ++ (wD G g d ++ (wQ G ae tq ++ (wZ G az zs ++ R))))) sz (wX9_leastTrucks k q o d tq zs p0 p1)) (qQi G (wQ G a q ++ (wO G a b ae g az o ++ (wD G g d ++ (wQ G ae tq ++ (wZ G az zs ++ R))))) sz (fun (r : Int32) (u : qS × qS × qS × qS × (Nat → qS)) => k r u.1 u.2.1 u.2.2.1 u.2.2.2.1 u.2.2.2.2) (fun (u : qS × qS × qS × qS × (Nat → qS)) => wQ G a u.1 ++ (wO G a b ae g az u.2.1 ++ (wD G g u.2.2.1 ++ (wQ G ae u.2.2.2.1 ++ (wZ G az u.2.2.2.2 ++ R)))))) 0 0 (va_A (wQ G a q ++ (wO G a b ae g az o ++ (wD G g d ++ (wQ G ae tq ++ (wZ G az zs ++ R))))) sz) := by
  refine Met.ofW (cc := cX9_leastTrucks) (maxL := 4) (ret := (some .int)) (by decide) rfl ?_
  intro p e s m args below meth c s₁ B hml hv
  obtain ⟨rfl, hsz, hP, hD0, hKn0, h⟩ := hv
  have hx := B.exec
  have hb := B.bytes
  have hr := B.returns
  have hts := atoms_spec (ws := wsX9_leastTrucks) B.pre
  have hown : s.vm.findClass RX9 = some m.cls := findClass_of_methodNamed B.named
  have hlocks := B.notSynchronized
  subst hsz
  have hD := hD0.self (sz := s.heap.size)
  generalize hAe : va_A (wQ G a q ++ (wO G a b ae g az o ++ (wD G g d ++ (wQ G ae tq ++ (wZ G az zs ++ R))))) s.heap.size = A at hD hKn0 ⊢
  have hA : ∀ q : Nat, s.heap.size ≤ q → A q := fun q h => by rw [← hAe]; exact Or.inr h
  have hKn : qKn G A s s.heap := hKn0
  have hS : va_S A s.heap s.heap [] := va_S.rf
  have hret : ∀ (r : Int32) (q' : qS) (o' : qS) (d' : qS) (tq' : qS) (zs' : (Nat → qS)) (H : Heap) (locs : List Loc) (ls : Array Slot) (pc : Nat), k r q' o' d' tq' zs' → va_P G.1 vwCl (wQ G a q' ++ (wO G a b ae g az o' ++ (wD G g d' ++ (wQ G ae tq' ++ (wZ G az zs' ++ R))))) H → va_D A (wQ G a q' ++ (wO G a b ae g az o' ++ (wD G g d' ++ (wQ G ae tq' ++ (wZ G az zs' ++ R))))) → va_S A s.heap H locs → decode cX9_leastTrucks pc = .ok (.ireturn, 1) → W p l e rmX9_leastTrucks s m #[.ref (b 0), .int p0, .int p1] below meth c H locs 0 0 (MQ below (qQi G (wQ G a q ++ (wO G a b ae g az o ++ (wD G g d ++ (wQ G ae tq ++ (wZ G az zs ++ R))))) s.heap.size (fun (r : Int32) (u : qS × qS × qS × qS × (Nat → qS)) => k r u.1 u.2.1 u.2.2.1 u.2.2.2.1 u.2.2.2.2) (fun (u : qS × qS × qS × qS × (Nat → qS)) => wQ G a u.1 ++ (wO G a b ae g az u.2.1 ++ (wD G g u.2.2.1 ++ (wQ G ae u.2.2.2.1 ++ (wZ G az u.2.2.2.2 ++ R)))))) #[.ref (b 0), .int p0, .int p1] s 0 0 A) (F0 m pc ls [.int r]) := fun r q' o' d' tq' zs' H locs ls pc hk hP hD hS hd => W.iret hx hb hr (fun t ht hW => q_ri (u := (⟨q', o', d', tq', zs'⟩ : qS × qS × qS × qS × (Nat → qS))) hAe hk hP hD hS ht) hS.2.2 hd
  have hl := lv_entry ([.ref (b 0), .int p0, .int p1]) (n := 4) (Nat.le_of_ble_eq_true rfl)
  rw [lg_entry_eq]
  generalize (lg_sl ([.ref (b 0), .int p0, .int p1]) ++ List.replicate (4 - (lg_sl ([.ref (b 0), .int p0, .int p1])).length) Slot.unset).toArray = ls at hl ⊢
  have hl : lv_has ls 4 [(0, .ref (b 0)), (1, .int p0), (2, .int p1)] := hl
  unfold wX9_leastTrucks at h
  show W p l e rmX9_leastTrucks s m #[.ref (b 0), .int p0, .int p1] below meth c s.heap [] 0 0 _ _
  refine lv_iload_n hx hb dX9_leastTrucks_0 rfl (lv_at hl 1 rfl) ?_
  refine lv_iconst (v := (1 : Int32)) hx hb dX9_leastTrucks_1 (by decide) ?_
  refine lv_bipush (v := (30 : Int32)) hx hb dX9_leastTrucks_2 (by decide) ?_
  refine qc_si (As := [.int p0, .int (1 : Int32), .int (30 : Int32)]) (rest := []) ⟨hx, hb, hml, hown, hts⟩ (mX9_within l G _ _ _ p0 (1 : Int32) (30 : Int32)) (cwS 3 hts gX9_leastTrucks_X9_within rfl rfl rfl (by decide +kernel) ⟨Nat.le_of_ble_eq_true rfl, Nat.le_of_ble_eq_true rfl⟩) hP hD hS hA hKn h rfl hl.1 rfl (Nat.le_of_ble_eq_true rfl) dX9_leastTrucks_4 ⟨Nat.zero_le _, Nat.zero_le _⟩ (fun r8 _ H locs h hP hD hS => ?_)
  have hP : va_P G.1 vwCl (wQ G a q ++ (wO G a b ae g az o ++ (wD G g d ++ (wQ G ae tq ++ (wZ G az zs ++ R))))) H := hP
  have hD : va_D A (wQ G a q ++ (wO G a b ae g az o ++ (wD G g d ++ (wQ G ae tq ++ (wZ G az zs ++ R))))) := hD
  refine lv_if_eq (tgt := 14) hx hb dX9_leastTrucks_7 (by decide) (fun c1 => ?_) (fun c1 => ?_)
  · have h := h.1 c1
    exact kX9_leastTrucks_b14 hx hb hml hown hts hA hKn hret q o d tq zs _ _ _ h hP hD hS (lv_sub hl [] rfl)
  · have h := h.2 c1
    refine lv_iload_n hx hb dX9_leastTrucks_10 rfl (lv_at hl 2 rfl) ?_
    refine lv_if_ge (tgt := 17) hx hb dX9_leastTrucks_11 (by decide) (fun c1 => ?_) (fun c1 => ?_)
    · have h := h.1 c1
      refine lv_iload_n hx hb dX9_leastTrucks_17 rfl (lv_at hl 2 rfl) ?_
      refine lv_aload_n hx hb dX9_leastTrucks_18 rfl (lv_at hl 0 rfl) ?_
      refine va_get (D := G.1) (ci := 9) (v := .ref (a 0)) (C := RX9) (T := TX9) (N := 5) hx hb hts iX9_leastTrucks_X9 hown hKn.k hP 18 rfl rfl 0 (by decide) (hts _ lX9_leastTrucks_f10) (fun _ h9 => h9) rfl dX9_leastTrucks_19 ?_
      refine va_get (D := G.1) (ci := 6) (v := .ref (a 16)) (C := RX6) (T := TX6) (N := 10) hx hb hts iX9_leastTrucks_X6 hown hKn.k hP 0 rfl rfl 4 (by decide) (hts _ lX9_leastTrucks_f62) (fun _ h9 => h9) rfl dX9_leastTrucks_22 ?_
      refine va_get (D := G.1) (ci := 1) (v := .int (q 0 5)) (C := RX1) (T := TX1) (N := 2) hx hb hts iX9_leastTrucks_X1 hown hKn.k hP 15 rfl rfl 1 (by decide) (hts _ lX9_leastTrucks_f171) (fun _ h9 => h9) rfl dX9_leastTrucks_25 ?_
      refine lv_icmp_le (tgt := 34) hx hb dX9_leastTrucks_28 (by decide) (fun c1 => ?_) (fun c1 => ?_)
      · have h := h.1 c1
        refine lv_aload_n hx hb dX9_leastTrucks_34 rfl (lv_at hl 0 rfl) ?_
        refine va_get (D := G.1) (ci := 9) (v := .ref (a 0)) (C := RX9) (T := TX9) (N := 5) hx hb hts iX9_leastTrucks_X9 hown hKn.k hP 18 rfl rfl 0 (by decide) (hts _ lX9_leastTrucks_f10) (fun _ h9 => h9) rfl dX9_leastTrucks_35 ?_
        refine va_get (D := G.1) (ci := 6) (v := .ref (a 14)) (C := RX6) (T := TX6) (N := 10) hx hb hts iX9_leastTrucks_X6 hown hKn.k hP 0 rfl rfl 2 (by decide) (hts _ lX9_leastTrucks_f101) (fun _ h9 => h9) rfl dX9_leastTrucks_38 ?_
        refine qc_vi (As := []) (rest := []) ⟨hx, hb, hml, hown, hts⟩ (mX8_leastSetting l G _ _ a q _ ) (cwV 0 hts gX9_leastTrucks_X8_leastSetting rfl rfl rfl (by decide +kernel) ⟨Nat.le_of_ble_eq_true rfl, Nat.le_of_ble_eq_true rfl⟩) hP hD hS hA hKn 7 8 rfl rfl rfl h rfl hl.1 rfl (Nat.le_of_ble_eq_true rfl) dX9_leastTrucks_41 ⟨Nat.zero_le _, Nat.zero_le _⟩ (fun r9 q10 H locs h hP hD hS => ?_)
        have hP : va_P G.1 vwCl (wQ G a q10 ++ (wO G a b ae g az o ++ (wD G g d ++ (wQ G ae tq ++ (wZ G az zs ++ R))))) H := hP
        have hD : va_D A (wQ G a q10 ++ (wO G a b ae g az o ++ (wD G g d ++ (wQ G ae tq ++ (wZ G az zs ++ R))))) := hD
        refine lv_istore_n (lv' := [(3, .int r9), (0, .ref (b 0)), (1, .int p0), (2, .int p1)]) hx hb dX9_leastTrucks_44 rfl hl (by decide) rfl (fun ls hl => ?_)
        obtain ⟨n11, h⟩ := h
        exact kX9_leastTrucks_b45 hx hb hml hown hts hA hKn hret n11 q10 o d tq zs p0 p1 r9 _ _ _ h hP hD hS (lv_sub hl [1, 2, 3, 0] rfl)
      · have h := h.2 c1
        refine lv_bipush (v := (-6 : Int32)) hx hb dX9_leastTrucks_31 (by decide) ?_
        exact hret _ _ _ _ _ _ _ _ _ _ h hP hD hS dX9_leastTrucks_33
    · have h := h.2 c1
      exact kX9_leastTrucks_b14 hx hb hml hown hts hA hKn hret q o d tq zs _ _ _ h hP hD hS (lv_sub hl [] rfl)
abbrev rmX9_put : Room := { frames := 2, cells := 0, slots := 0, locals := 46 }
theorem lX9_put_f196 : Cond.fieldLink RX9 196 "QuarryBlends$Pad" "length" "I" ∈ wsX9_put := by decide +kernel
theorem lX9_put_f36 : Cond.fieldLink RX9 36 "QuarryBlends" "pad" "LQuarryBlends$Pad;" ∈ wsX9_put := by decide +kernel
theorem iX9_put_X5 : ∀ w ∈ wsX50, w ∈ wsX9_put := by decide +kernel
theorem iX9_put_X9 : ∀ w ∈ wsX90, w ∈ wsX9_put := by decide +kernel
set_option maxHeartbeats 4000000 in
set_option maxRecDepth 100000 in
theorem mX9_put (l : Launch) (G : qG) (k : Int32 → qS → qS → qS → qS → (Nat → qS) → Prop) (R : va_W) (a : Nat → Nat) (b : Nat → Nat) (g : Nat → Nat) (ae : Nat → Nat) (az : Nat → Nat → Nat) (q : qS) (o : qS) (d : qS) (tq : qS) (zs : (Nat → qS)) (sz : Nat) (p0 : Int64) : Met l yX9_put wsX9_put rmX9_put (qPc G [.ref (b 0), .long p0] (wQ G a q ++ (wO G a b ae g az o ++ (wD G g d ++ (wQ G ae tq ++ (wZ G az zs ++ R))))) sz (wX9_put k q o d tq zs p0)) (qQi G (wQ G a q ++ (wO G a b ae g az o ++ (wD G g d ++ (wQ G ae tq ++ (wZ G az zs ++ R))))) sz (fun (r : Int32) (u : qS × qS × qS × qS × (Nat → qS)) => k r u.1 u.2.1 u.2.2.1 u.2.2.2.1 u.2.2.2.2) (fun (u : qS × qS × qS × qS × (Nat → qS)) => wQ G a u.1 ++ (wO G a b ae g az u.2.1 ++ (wD G g u.2.2.1 ++ (wQ G ae u.2.2.2.1 ++ (wZ G az u.2.2.2.2 ++ R)))))) 0 0 (va_A (wQ G a q ++ (wO G a b ae g az o ++ (wD G g d ++ (wQ G ae tq ++ (wZ G az zs ++ R))))) sz) := by
  refine Met.ofW (cc := cX9_put) (maxL := 4) (ret := (some .int)) (by decide) rfl ?_
  intro p e s m args below meth c s₁ B hml hv
  obtain ⟨rfl, hsz, hP, hD0, hKn0, h⟩ := hv
  have hx := B.exec
  have hb := B.bytes
  have hr := B.returns
  have hts := atoms_spec (ws := wsX9_put) B.pre
  have hown : s.vm.findClass RX9 = some m.cls := findClass_of_methodNamed B.named
  have hlocks := B.notSynchronized
  subst hsz
  have hD := hD0.self (sz := s.heap.size)
  generalize hAe : va_A (wQ G a q ++ (wO G a b ae g az o ++ (wD G g d ++ (wQ G ae tq ++ (wZ G az zs ++ R))))) s.heap.size = A at hD hKn0 ⊢
  have hA : ∀ q : Nat, s.heap.size ≤ q → A q := fun q h => by rw [← hAe]; exact Or.inr h
  have hKn : qKn G A s s.heap := hKn0
  have hS : va_S A s.heap s.heap [] := va_S.rf
  have hret : ∀ (r : Int32) (q' : qS) (o' : qS) (d' : qS) (tq' : qS) (zs' : (Nat → qS)) (H : Heap) (locs : List Loc) (ls : Array Slot) (pc : Nat), k r q' o' d' tq' zs' → va_P G.1 vwCl (wQ G a q' ++ (wO G a b ae g az o' ++ (wD G g d' ++ (wQ G ae tq' ++ (wZ G az zs' ++ R))))) H → va_D A (wQ G a q' ++ (wO G a b ae g az o' ++ (wD G g d' ++ (wQ G ae tq' ++ (wZ G az zs' ++ R))))) → va_S A s.heap H locs → decode cX9_put pc = .ok (.ireturn, 1) → W p l e rmX9_put s m #[.ref (b 0), .long p0] below meth c H locs 0 0 (MQ below (qQi G (wQ G a q ++ (wO G a b ae g az o ++ (wD G g d ++ (wQ G ae tq ++ (wZ G az zs ++ R))))) s.heap.size (fun (r : Int32) (u : qS × qS × qS × qS × (Nat → qS)) => k r u.1 u.2.1 u.2.2.1 u.2.2.2.1 u.2.2.2.2) (fun (u : qS × qS × qS × qS × (Nat → qS)) => wQ G a u.1 ++ (wO G a b ae g az u.2.1 ++ (wD G g u.2.2.1 ++ (wQ G ae u.2.2.2.1 ++ (wZ G az u.2.2.2.2 ++ R)))))) #[.ref (b 0), .long p0] s 0 0 A) (F0 m pc ls [.int r]) := fun r q' o' d' tq' zs' H locs ls pc hk hP hD hS hd => W.iret hx hb hr (fun t ht hW => q_ri (u := (⟨q', o', d', tq', zs'⟩ : qS × qS × qS × qS × (Nat → qS))) hAe hk hP hD hS ht) hS.2.2 hd
  have hl := lv_entry ([.ref (b 0), .long p0]) (n := 4) (Nat.le_of_ble_eq_true rfl)
  rw [lg_entry_eq]
  generalize (lg_sl ([.ref (b 0), .long p0]) ++ List.replicate (4 - (lg_sl ([.ref (b 0), .long p0])).length) Slot.unset).toArray = ls at hl ⊢
  have hl : lv_has ls 4 [(0, .ref (b 0)), (1, .long p0)] := hl
  unfold wX9_put at h
  show W p l e rmX9_put s m #[.ref (b 0), .long p0] below meth c s.heap [] 0 0 _ _
  refine lv_lload_n hx hb dX9_put_0 rfl (lv_at hl 1 rfl) ?_
  refine qc_si (As := [.long p0]) (rest := []) ⟨hx, hb, hml, hown, hts⟩ (mX5_charactersIn l G _ _ _ p0) (va_cwS 1 hts gX9_put_X5_charactersIn rfl rfl rfl (by decide +kernel) ⟨Nat.le_of_ble_eq_true rfl, Nat.le_of_ble_eq_true rfl⟩) hP hD hS hA hKn h rfl hl.1 rfl (Nat.le_of_ble_eq_true rfl) dX9_put_1 ⟨Nat.zero_le _, Nat.zero_le _⟩ (fun r1 _ H locs h hP hD hS => ?_)
  have hP : va_P G.1 vwCl (wQ G a q ++ (wO G a b ae g az o ++ (wD G g d ++ (wQ G ae tq ++ (wZ G az zs ++ R))))) H := hP
  have hD : va_D A (wQ G a q ++ (wO G a b ae g az o ++ (wD G g d ++ (wQ G ae tq ++ (wZ G az zs ++ R))))) := hD
  refine lv_istore_n (lv' := [(3, .int r1), (0, .ref (b 0)), (1, .long p0)]) hx hb dX9_put_4 rfl hl (by decide) rfl (fun ls hl => ?_)
  refine lv_iload_n hx hb dX9_put_5 rfl (lv_at hl 0 rfl) ?_
  refine lv_if_ne (tgt := 12) hx hb dX9_put_6 (by decide) (fun c1 => ?_) (fun c1 => ?_)
  · have h := h.1 c1
    refine lv_aload_n hx hb dX9_put_12 rfl (lv_at hl 1 rfl) ?_
    refine va_get (D := G.1) (ci := 9) (v := .ref (g 0)) (C := RX9) (T := TX9) (N := 5) hx hb hts iX9_put_X9 hown hKn.k hP 18 rfl rfl 4 (by decide) (hts _ lX9_put_f36) (fun _ h9 => h9) rfl dX9_put_13 ?_
    refine va_get (D := G.1) (ci := 5) (v := .int (d 0 0)) (C := RX5) (T := TX5) (N := 6) hx hb hts iX9_put_X5 hown hKn.k hP 24 rfl rfl 1 (by decide) (hts _ lX9_put_f196) (fun _ h9 => h9) rfl dX9_put_16 ?_
    refine lv_iload_n hx hb dX9_put_19 rfl (lv_at hl 0 rfl) ?_
    refine lv_iadd hx hb dX9_put_20 ?_
    refine lv_bipush (v := (80 : Int32)) hx hb dX9_put_21 (by decide) ?_
    refine lv_icmp_le (tgt := 29) hx hb dX9_put_23 (by decide) (fun c1 => ?_) (fun c1 => ?_)
    · have h := h.1 c1
      refine lv_aload_n hx hb dX9_put_29 rfl (lv_at hl 1 rfl) ?_
      refine va_get (D := G.1) (ci := 9) (v := .ref (g 0)) (C := RX9) (T := TX9) (N := 5) hx hb hts iX9_put_X9 hown hKn.k hP 18 rfl rfl 4 (by decide) (hts _ lX9_put_f36) (fun _ h9 => h9) rfl dX9_put_30 ?_
      refine lv_lload_n hx hb dX9_put_33 rfl (lv_at hl 2 rfl) ?_
      refine lv_iload_n hx hb dX9_put_34 rfl (lv_at hl 0 rfl) ?_
      obtain ⟨hP, hD⟩ := q_perm (((List.perm_append_comm_assoc _ _ _).append_left _).trans (List.perm_append_comm_assoc _ _ _)) hP hD
      have hP : va_P G.1 vwCl (wD G g d ++ (wQ G a q ++ (wO G a b ae g az o ++ (wQ G ae tq ++ (wZ G az zs ++ R))))) H := hP
      have hD : va_D A (wD G g d ++ (wQ G a q ++ (wO G a b ae g az o ++ (wQ G ae tq ++ (wZ G az zs ++ R))))) := hD
      refine qc_vv (As := [.long p0, .int r1]) (rest := []) ⟨hx, hb, hml, hown, hts⟩ (mX5_append l G _ _ g d _ p0 r1) (cwV 2 hts gX9_put_X5_append rfl rfl rfl (by decide +kernel) ⟨Nat.le_of_ble_eq_true rfl, Nat.le_of_ble_eq_true rfl⟩) hP hD hS hA hKn 0 5 rfl rfl rfl h rfl hl.1 rfl (Nat.le_of_ble_eq_true rfl) dX9_put_35 ⟨Nat.zero_le _, Nat.zero_le _⟩ (fun d3 H locs h hP hD hS => ?_)
      have hP : va_P G.1 vwCl (wD G g d3 ++ (wQ G a q ++ (wO G a b ae g az o ++ (wQ G ae tq ++ (wZ G az zs ++ R))))) H := hP
      have hD : va_D A (wD G g d3 ++ (wQ G a q ++ (wO G a b ae g az o ++ (wQ G ae tq ++ (wZ G az zs ++ R))))) := hD
      obtain ⟨hP, hD⟩ := q_perm ((((List.perm_append_comm_assoc _ _ _).append_left _).trans (List.perm_append_comm_assoc _ _ _))).symm hP hD
      have hP : va_P G.1 vwCl (wQ G a q ++ (wO G a b ae g az o ++ (wD G g d3 ++ (wQ G ae tq ++ (wZ G az zs ++ R))))) H := hP
      have hD : va_D A (wQ G a q ++ (wO G a b ae g az o ++ (wD G g d3 ++ (wQ G ae tq ++ (wZ G az zs ++ R))))) := hD
      refine lv_aload_n hx hb dX9_put_38 rfl (lv_at hl 1 rfl) ?_
      refine va_get (D := G.1) (ci := 9) (v := .ref (g 0)) (C := RX9) (T := TX9) (N := 5) hx hb hts iX9_put_X9 hown hKn.k hP 18 rfl rfl 4 (by decide) (hts _ lX9_put_f36) (fun _ h9 => h9) rfl dX9_put_39 ?_
      refine va_get (D := G.1) (ci := 5) (v := .int (d3 0 0)) (C := RX5) (T := TX5) (N := 6) hx hb hts iX9_put_X5 hown hKn.k hP 24 rfl rfl 1 (by decide) (hts _ lX9_put_f196) (fun _ h9 => h9) rfl dX9_put_42 ?_
      exact hret _ _ _ _ _ _ _ _ _ _ h hP hD hS dX9_put_45
    · have h := h.2 c1
      refine lv_bipush (v := (-4 : Int32)) hx hb dX9_put_26 (by decide) ?_
      exact hret _ _ _ _ _ _ _ _ _ _ h hP hD hS dX9_put_28
  · have h := h.2 c1
    refine lv_bipush (v := (-2 : Int32)) hx hb dX9_put_9 (by decide) ?_
    exact hret _ _ _ _ _ _ _ _ _ _ h hP hD hS dX9_put_11
abbrev rmX9_wipe : Room := { frames := 0, cells := 0, slots := 0, locals := 0 }
theorem lX9_wipe_f196 : Cond.fieldLink RX9 196 "QuarryBlends$Pad" "length" "I" ∈ wsX9_wipe := by decide +kernel
theorem lX9_wipe_f36 : Cond.fieldLink RX9 36 "QuarryBlends" "pad" "LQuarryBlends$Pad;" ∈ wsX9_wipe := by decide +kernel
theorem iX9_wipe_X5 : ∀ w ∈ wsX50, w ∈ wsX9_wipe := by decide +kernel
theorem iX9_wipe_X9 : ∀ w ∈ wsX90, w ∈ wsX9_wipe := by decide +kernel
set_option maxHeartbeats 4000000 in
set_option maxRecDepth 100000 in
theorem mX9_wipe (l : Launch) (G : qG) (k : Int32 → qS → qS → qS → qS → (Nat → qS) → Prop) (R : va_W) (a : Nat → Nat) (b : Nat → Nat) (g : Nat → Nat) (ae : Nat → Nat) (az : Nat → Nat → Nat) (q : qS) (o : qS) (d : qS) (tq : qS) (zs : (Nat → qS)) (sz : Nat) : Met l yX9_wipe wsX9_wipe rmX9_wipe (qPc G [.ref (b 0)] (wQ G a q ++ (wO G a b ae g az o ++ (wD G g d ++ (wQ G ae tq ++ (wZ G az zs ++ R))))) sz (wX9_wipe k q o d tq zs)) (qQi G (wQ G a q ++ (wO G a b ae g az o ++ (wD G g d ++ (wQ G ae tq ++ (wZ G az zs ++ R))))) sz (fun (r : Int32) (u : qS × qS × qS × qS × (Nat → qS)) => k r u.1 u.2.1 u.2.2.1 u.2.2.2.1 u.2.2.2.2) (fun (u : qS × qS × qS × qS × (Nat → qS)) => wQ G a u.1 ++ (wO G a b ae g az u.2.1 ++ (wD G g u.2.2.1 ++ (wQ G ae u.2.2.2.1 ++ (wZ G az u.2.2.2.2 ++ R)))))) 0 0 (va_A (wQ G a q ++ (wO G a b ae g az o ++ (wD G g d ++ (wQ G ae tq ++ (wZ G az zs ++ R))))) sz) := by
  refine Met.ofW (cc := cX9_wipe) (maxL := 2) (ret := (some .int)) (by decide) rfl ?_
  intro p e s m args below meth c s₁ B hml hv
  obtain ⟨rfl, hsz, hP, hD0, hKn0, h⟩ := hv
  have hx := B.exec
  have hb := B.bytes
  have hr := B.returns
  have hts := atoms_spec (ws := wsX9_wipe) B.pre
  have hown : s.vm.findClass RX9 = some m.cls := findClass_of_methodNamed B.named
  have hlocks := B.notSynchronized
  subst hsz
  have hD := hD0.self (sz := s.heap.size)
  generalize hAe : va_A (wQ G a q ++ (wO G a b ae g az o ++ (wD G g d ++ (wQ G ae tq ++ (wZ G az zs ++ R))))) s.heap.size = A at hD hKn0 ⊢
  have hA : ∀ q : Nat, s.heap.size ≤ q → A q := fun q h => by rw [← hAe]; exact Or.inr h
  have hKn : qKn G A s s.heap := hKn0
  have hS : va_S A s.heap s.heap [] := va_S.rf
  have hret : ∀ (r : Int32) (q' : qS) (o' : qS) (d' : qS) (tq' : qS) (zs' : (Nat → qS)) (H : Heap) (locs : List Loc) (ls : Array Slot) (pc : Nat), k r q' o' d' tq' zs' → va_P G.1 vwCl (wQ G a q' ++ (wO G a b ae g az o' ++ (wD G g d' ++ (wQ G ae tq' ++ (wZ G az zs' ++ R))))) H → va_D A (wQ G a q' ++ (wO G a b ae g az o' ++ (wD G g d' ++ (wQ G ae tq' ++ (wZ G az zs' ++ R))))) → va_S A s.heap H locs → decode cX9_wipe pc = .ok (.ireturn, 1) → W p l e rmX9_wipe s m #[.ref (b 0)] below meth c H locs 0 0 (MQ below (qQi G (wQ G a q ++ (wO G a b ae g az o ++ (wD G g d ++ (wQ G ae tq ++ (wZ G az zs ++ R))))) s.heap.size (fun (r : Int32) (u : qS × qS × qS × qS × (Nat → qS)) => k r u.1 u.2.1 u.2.2.1 u.2.2.2.1 u.2.2.2.2) (fun (u : qS × qS × qS × qS × (Nat → qS)) => wQ G a u.1 ++ (wO G a b ae g az u.2.1 ++ (wD G g u.2.2.1 ++ (wQ G ae u.2.2.2.1 ++ (wZ G az u.2.2.2.2 ++ R)))))) #[.ref (b 0)] s 0 0 A) (F0 m pc ls [.int r]) := fun r q' o' d' tq' zs' H locs ls pc hk hP hD hS hd => W.iret hx hb hr (fun t ht hW => q_ri (u := (⟨q', o', d', tq', zs'⟩ : qS × qS × qS × qS × (Nat → qS))) hAe hk hP hD hS ht) hS.2.2 hd
  have hl := lv_entry ([.ref (b 0)]) (n := 2) (Nat.le_of_ble_eq_true rfl)
  rw [lg_entry_eq]
  generalize (lg_sl ([.ref (b 0)]) ++ List.replicate (2 - (lg_sl ([.ref (b 0)])).length) Slot.unset).toArray = ls at hl ⊢
  have hl : lv_has ls 2 [(0, .ref (b 0))] := hl
  unfold wX9_wipe at h
  show W p l e rmX9_wipe s m #[.ref (b 0)] below meth c s.heap [] 0 0 _ _
  refine lv_aload_n hx hb dX9_wipe_0 rfl (lv_at hl 0 rfl) ?_
  refine va_get (D := G.1) (ci := 9) (v := .ref (g 0)) (C := RX9) (T := TX9) (N := 5) hx hb hts iX9_wipe_X9 hown hKn.k hP 18 rfl rfl 4 (by decide) (hts _ lX9_wipe_f36) (fun _ h9 => h9) rfl dX9_wipe_1 ?_
  refine va_get (D := G.1) (ci := 5) (v := .int (d 0 0)) (C := RX5) (T := TX5) (N := 6) hx hb hts iX9_wipe_X5 hown hKn.k hP 24 rfl rfl 1 (by decide) (hts _ lX9_wipe_f196) (fun _ h9 => h9) rfl dX9_wipe_4 ?_
  refine lv_topi (fun y1 ey1 => ?_)
  have h := h y1 ey1
  refine lv_istore_n (lv' := [(1, .int y1), (0, .ref (b 0))]) hx hb dX9_wipe_7 rfl hl (by decide) rfl (fun ls hl => ?_)
  refine lv_aload_n hx hb dX9_wipe_8 rfl (lv_at hl 1 rfl) ?_
  refine va_get (D := G.1) (ci := 9) (v := .ref (g 0)) (C := RX9) (T := TX9) (N := 5) hx hb hts iX9_wipe_X9 hown hKn.k hP 18 rfl rfl 4 (by decide) (hts _ lX9_wipe_f36) (fun _ h9 => h9) rfl dX9_wipe_9 ?_
  refine lv_iconst (v := (0 : Int32)) hx hb dX9_wipe_12 (by decide) ?_
  refine va_put (D := G.1) (ci := 5) (v := .int (0 : Int32)) (ty := .int) (C := RX5) (T := TX5) (N := 6) hx hb hts iX9_wipe_X5 tyX5 tyX5_ok nmX5 hown hKn.k hP hD hS 24 rfl rfl 1 (by decide) (hts _ lX9_wipe_f196) (fun _ h9 => h9) rfl (by decide +kernel) rfl rfl (Nat.le_of_ble_eq_true rfl) dX9_wipe_13 (fun H locs hP hD hS => ?_)
  obtain ⟨d2, ed2⟩ : ∃ z : qS, z = up2 d 0 0 (0 : Int32) := ⟨_, rfl⟩
  have hP : va_P G.1 vwCl (wQ G a q ++ (wO G a b ae g az o ++ (wD G g d2 ++ (wQ G ae tq ++ (wZ G az zs ++ R))))) H := by rw [ed2]; exact hP
  have hD : va_D A (wQ G a q ++ (wO G a b ae g az o ++ (wD G g d2 ++ (wQ G ae tq ++ (wZ G az zs ++ R))))) := by rw [ed2]; exact hD
  have h := h d2 ed2
  refine lv_iload_n hx hb dX9_wipe_16 rfl (lv_at hl 0 rfl) ?_
  exact hret _ _ _ _ _ _ _ _ _ _ h hP hD hS dX9_wipe_17
abbrev rmX9_undo : Room := { frames := 5, cells := 0, slots := 0, locals := 102 }
theorem lX9_undo_f10 : Cond.fieldLink RX9 10 "QuarryBlends" "now" "LQuarryBlends$Quarry;" ∈ wsX9_undo := by decide +kernel
theorem lX9_undo_f199 : Cond.fieldLink RX9 199 "QuarryBlends$History" "amount" "I" ∈ wsX9_undo := by decide +kernel
theorem lX9_undo_f22 : Cond.fieldLink RX9 22 "QuarryBlends" "history" "LQuarryBlends$History;" ∈ wsX9_undo := by decide +kernel
theorem iX9_undo_X4 : ∀ w ∈ wsX40, w ∈ wsX9_undo := by decide +kernel
theorem iX9_undo_X9 : ∀ w ∈ wsX90, w ∈ wsX9_undo := by decide +kernel
set_option maxHeartbeats 4000000 in
set_option maxRecDepth 100000 in
theorem mX9_undo (l : Launch) (G : qG) (k : Int32 → qS → qS → qS → qS → (Nat → qS) → Prop) (R : va_W) (a : Nat → Nat) (b : Nat → Nat) (g : Nat → Nat) (ae : Nat → Nat) (az : Nat → Nat → Nat) (q : qS) (o : qS) (d : qS) (tq : qS) (zs : (Nat → qS)) (sz : Nat) : Met l yX9_undo wsX9_undo rmX9_undo (qPc G [.ref (b 0)] (wQ G a q ++ (wO G a b ae g az o ++ (wD G g d ++ (wQ G ae tq ++ (wZ G az zs ++ R))))) sz (wX9_undo k q o d tq zs)) (qQi G (wQ G a q ++ (wO G a b ae g az o ++ (wD G g d ++ (wQ G ae tq ++ (wZ G az zs ++ R))))) sz (fun (r : Int32) (u : qS × qS × qS × qS × (Nat → qS)) => k r u.1 u.2.1 u.2.2.1 u.2.2.2.1 u.2.2.2.2) (fun (u : qS × qS × qS × qS × (Nat → qS)) => wQ G a u.1 ++ (wO G a b ae g az u.2.1 ++ (wD G g u.2.2.1 ++ (wQ G ae u.2.2.2.1 ++ (wZ G az u.2.2.2.2 ++ R)))))) 0 0 (va_A (wQ G a q ++ (wO G a b ae g az o ++ (wD G g d ++ (wQ G ae tq ++ (wZ G az zs ++ R))))) sz) := by
  refine Met.ofW (cc := cX9_undo) (maxL := 1) (ret := (some .int)) (by decide) rfl ?_
  intro p e s m args below meth c s₁ B hml hv
  obtain ⟨rfl, hsz, hP, hD0, hKn0, h⟩ := hv
  have hx := B.exec
  have hb := B.bytes
  have hr := B.returns
  have hts := atoms_spec (ws := wsX9_undo) B.pre
  have hown : s.vm.findClass RX9 = some m.cls := findClass_of_methodNamed B.named
  have hlocks := B.notSynchronized
  subst hsz
  have hD := hD0.self (sz := s.heap.size)
  generalize hAe : va_A (wQ G a q ++ (wO G a b ae g az o ++ (wD G g d ++ (wQ G ae tq ++ (wZ G az zs ++ R))))) s.heap.size = A at hD hKn0 ⊢
  have hA : ∀ q : Nat, s.heap.size ≤ q → A q := fun q h => by rw [← hAe]; exact Or.inr h
  have hKn : qKn G A s s.heap := hKn0
  have hS : va_S A s.heap s.heap [] := va_S.rf
  have hret : ∀ (r : Int32) (q' : qS) (o' : qS) (d' : qS) (tq' : qS) (zs' : (Nat → qS)) (H : Heap) (locs : List Loc) (ls : Array Slot) (pc : Nat), k r q' o' d' tq' zs' → va_P G.1 vwCl (wQ G a q' ++ (wO G a b ae g az o' ++ (wD G g d' ++ (wQ G ae tq' ++ (wZ G az zs' ++ R))))) H → va_D A (wQ G a q' ++ (wO G a b ae g az o' ++ (wD G g d' ++ (wQ G ae tq' ++ (wZ G az zs' ++ R))))) → va_S A s.heap H locs → decode cX9_undo pc = .ok (.ireturn, 1) → W p l e rmX9_undo s m #[.ref (b 0)] below meth c H locs 0 0 (MQ below (qQi G (wQ G a q ++ (wO G a b ae g az o ++ (wD G g d ++ (wQ G ae tq ++ (wZ G az zs ++ R))))) s.heap.size (fun (r : Int32) (u : qS × qS × qS × qS × (Nat → qS)) => k r u.1 u.2.1 u.2.2.1 u.2.2.2.1 u.2.2.2.2) (fun (u : qS × qS × qS × qS × (Nat → qS)) => wQ G a u.1 ++ (wO G a b ae g az u.2.1 ++ (wD G g u.2.2.1 ++ (wQ G ae u.2.2.2.1 ++ (wZ G az u.2.2.2.2 ++ R)))))) #[.ref (b 0)] s 0 0 A) (F0 m pc ls [.int r]) := fun r q' o' d' tq' zs' H locs ls pc hk hP hD hS hd => W.iret hx hb hr (fun t ht hW => q_ri (u := (⟨q', o', d', tq', zs'⟩ : qS × qS × qS × qS × (Nat → qS))) hAe hk hP hD hS ht) hS.2.2 hd
  have hl := lv_entry ([.ref (b 0)]) (n := 1) (Nat.le_of_ble_eq_true rfl)
  rw [lg_entry_eq]
  generalize (lg_sl ([.ref (b 0)]) ++ List.replicate (1 - (lg_sl ([.ref (b 0)])).length) Slot.unset).toArray = ls at hl ⊢
  have hl : lv_has ls 1 [(0, .ref (b 0))] := hl
  unfold wX9_undo at h
  show W p l e rmX9_undo s m #[.ref (b 0)] below meth c s.heap [] 0 0 _ _
  refine lv_aload_n hx hb dX9_undo_0 rfl (lv_at hl 0 rfl) ?_
  refine va_get (D := G.1) (ci := 9) (v := .ref (b 1)) (C := RX9) (T := TX9) (N := 5) hx hb hts iX9_undo_X9 hown hKn.k hP 18 rfl rfl 2 (by decide) (hts _ lX9_undo_f22) (fun _ h9 => h9) rfl dX9_undo_1 ?_
  refine va_get (D := G.1) (ci := 4) (v := .int (o 0 1)) (C := RX4) (T := TX4) (N := 3) hx hb hts iX9_undo_X4 hown hKn.k hP 19 rfl rfl 2 (by decide) (hts _ lX9_undo_f199) (fun _ h9 => h9) rfl dX9_undo_4 ?_
  refine lv_if_ne (tgt := 13) hx hb dX9_undo_7 (by decide) (fun c1 => ?_) (fun c1 => ?_)
  · have h := h.1 c1
    refine lv_aload_n hx hb dX9_undo_13 rfl (lv_at hl 0 rfl) ?_
    refine va_get (D := G.1) (ci := 9) (v := .ref (b 1)) (C := RX9) (T := TX9) (N := 5) hx hb hts iX9_undo_X9 hown hKn.k hP 18 rfl rfl 2 (by decide) (hts _ lX9_undo_f22) (fun _ h9 => h9) rfl dX9_undo_14 ?_
    refine lv_aload_n hx hb dX9_undo_17 rfl (lv_at hl 0 rfl) ?_
    refine va_get (D := G.1) (ci := 9) (v := .ref (a 0)) (C := RX9) (T := TX9) (N := 5) hx hb hts iX9_undo_X9 hown hKn.k hP 18 rfl rfl 0 (by decide) (hts _ lX9_undo_f10) (fun _ h9 => h9) rfl dX9_undo_18 ?_
    refine qc_vv (As := [.ref (a 0)]) (rest := []) ⟨hx, hb, hml, hown, hts⟩ (mX4_takeLatest l G _ _ a b g ae az q o d tq zs _ ) (cwV 1 hts gX9_undo_X4_takeLatest rfl rfl rfl (by decide +kernel) ⟨Nat.le_of_ble_eq_true rfl, Nat.le_of_ble_eq_true rfl⟩) hP hD hS hA hKn 19 4 rfl rfl rfl h rfl hl.1 rfl (Nat.le_of_ble_eq_true rfl) dX9_undo_21 ⟨Nat.zero_le _, Nat.zero_le _⟩ (fun u H locs h hP hD hS => ?_)
    obtain ⟨q2, o3, d4, tq5, zs6⟩ := u
    have hP : va_P G.1 vwCl (wQ G a q2 ++ (wO G a b ae g az o3 ++ (wD G g d4 ++ (wQ G ae tq5 ++ (wZ G az zs6 ++ R))))) H := hP
    have hD : va_D A (wQ G a q2 ++ (wO G a b ae g az o3 ++ (wD G g d4 ++ (wQ G ae tq5 ++ (wZ G az zs6 ++ R))))) := hD
    refine lv_aload_n hx hb dX9_undo_24 rfl (lv_at hl 0 rfl) ?_
    refine va_get (D := G.1) (ci := 9) (v := .ref (b 1)) (C := RX9) (T := TX9) (N := 5) hx hb hts iX9_undo_X9 hown hKn.k hP 18 rfl rfl 2 (by decide) (hts _ lX9_undo_f22) (fun _ h9 => h9) rfl dX9_undo_25 ?_
    refine va_get (D := G.1) (ci := 4) (v := .int (o3 0 1)) (C := RX4) (T := TX4) (N := 3) hx hb hts iX9_undo_X4 hown hKn.k hP 19 rfl rfl 2 (by decide) (hts _ lX9_undo_f199) (fun _ h9 => h9) rfl dX9_undo_28 ?_
    exact hret _ _ _ _ _ _ _ _ _ _ h hP hD hS dX9_undo_31
  · have h := h.2 c1
    refine lv_bipush (v := (-5 : Int32)) hx hb dX9_undo_10 (by decide) ?_
    exact hret _ _ _ _ _ _ _ _ _ _ h hP hD hS dX9_undo_12
abbrev rmX9_save : Room := { frames := 5, cells := 0, slots := 0, locals := 103 }
theorem lX9_save_f10 : Cond.fieldLink RX9 10 "QuarryBlends" "now" "LQuarryBlends$Quarry;" ∈ wsX9_save := by decide +kernel
theorem lX9_save_f168 : Cond.fieldLink RX9 168 "QuarryBlends$Faces" "amount" "I" ∈ wsX9_save := by decide +kernel
theorem lX9_save_f29 : Cond.fieldLink RX9 29 "QuarryBlends" "slots" "LQuarryBlends$Slots;" ∈ wsX9_save := by decide +kernel
theorem lX9_save_f52 : Cond.fieldLink RX9 52 "QuarryBlends$Quarry" "faces" "LQuarryBlends$Faces;" ∈ wsX9_save := by decide +kernel
theorem iX9_save_X3 : ∀ w ∈ wsX30, w ∈ wsX9_save := by decide +kernel
theorem iX9_save_X6 : ∀ w ∈ wsX60, w ∈ wsX9_save := by decide +kernel
theorem iX9_save_X9 : ∀ w ∈ wsX90, w ∈ wsX9_save := by decide +kernel
set_option maxHeartbeats 4000000 in
set_option maxRecDepth 100000 in
theorem mX9_save (l : Launch) (G : qG) (k : Int32 → qS → qS → qS → qS → (Nat → qS) → Prop) (R : va_W) (a : Nat → Nat) (b : Nat → Nat) (g : Nat → Nat) (ae : Nat → Nat) (az : Nat → Nat → Nat) (q : qS) (o : qS) (d : qS) (tq : qS) (zs : (Nat → qS)) (sz : Nat) (p0 : Int32) : Met l yX9_save wsX9_save rmX9_save (qPc G [.ref (b 0), .int p0] (wQ G a q ++ (wO G a b ae g az o ++ (wD G g d ++ (wQ G ae tq ++ (wZ G az zs ++ R))))) sz (wX9_save k q o d tq zs p0)) (qQi G (wQ G a q ++ (wO G a b ae g az o ++ (wD G g d ++ (wQ G ae tq ++ (wZ G az zs ++ R))))) sz (fun (r : Int32) (u : qS × qS × qS × qS × (Nat → qS)) => k r u.1 u.2.1 u.2.2.1 u.2.2.2.1 u.2.2.2.2) (fun (u : qS × qS × qS × qS × (Nat → qS)) => wQ G a u.1 ++ (wO G a b ae g az u.2.1 ++ (wD G g u.2.2.1 ++ (wQ G ae u.2.2.2.1 ++ (wZ G az u.2.2.2.2 ++ R)))))) 0 0 (va_A (wQ G a q ++ (wO G a b ae g az o ++ (wD G g d ++ (wQ G ae tq ++ (wZ G az zs ++ R))))) sz) := by
  refine Met.ofW (cc := cX9_save) (maxL := 2) (ret := (some .int)) (by decide) rfl ?_
  intro p e s m args below meth c s₁ B hml hv
  obtain ⟨rfl, hsz, hP, hD0, hKn0, h⟩ := hv
  have hx := B.exec
  have hb := B.bytes
  have hr := B.returns
  have hts := atoms_spec (ws := wsX9_save) B.pre
  have hown : s.vm.findClass RX9 = some m.cls := findClass_of_methodNamed B.named
  have hlocks := B.notSynchronized
  subst hsz
  have hD := hD0.self (sz := s.heap.size)
  generalize hAe : va_A (wQ G a q ++ (wO G a b ae g az o ++ (wD G g d ++ (wQ G ae tq ++ (wZ G az zs ++ R))))) s.heap.size = A at hD hKn0 ⊢
  have hA : ∀ q : Nat, s.heap.size ≤ q → A q := fun q h => by rw [← hAe]; exact Or.inr h
  have hKn : qKn G A s s.heap := hKn0
  have hS : va_S A s.heap s.heap [] := va_S.rf
  have hret : ∀ (r : Int32) (q' : qS) (o' : qS) (d' : qS) (tq' : qS) (zs' : (Nat → qS)) (H : Heap) (locs : List Loc) (ls : Array Slot) (pc : Nat), k r q' o' d' tq' zs' → va_P G.1 vwCl (wQ G a q' ++ (wO G a b ae g az o' ++ (wD G g d' ++ (wQ G ae tq' ++ (wZ G az zs' ++ R))))) H → va_D A (wQ G a q' ++ (wO G a b ae g az o' ++ (wD G g d' ++ (wQ G ae tq' ++ (wZ G az zs' ++ R))))) → va_S A s.heap H locs → decode cX9_save pc = .ok (.ireturn, 1) → W p l e rmX9_save s m #[.ref (b 0), .int p0] below meth c H locs 0 0 (MQ below (qQi G (wQ G a q ++ (wO G a b ae g az o ++ (wD G g d ++ (wQ G ae tq ++ (wZ G az zs ++ R))))) s.heap.size (fun (r : Int32) (u : qS × qS × qS × qS × (Nat → qS)) => k r u.1 u.2.1 u.2.2.1 u.2.2.2.1 u.2.2.2.2) (fun (u : qS × qS × qS × qS × (Nat → qS)) => wQ G a u.1 ++ (wO G a b ae g az u.2.1 ++ (wD G g u.2.2.1 ++ (wQ G ae u.2.2.2.1 ++ (wZ G az u.2.2.2.2 ++ R)))))) #[.ref (b 0), .int p0] s 0 0 A) (F0 m pc ls [.int r]) := fun r q' o' d' tq' zs' H locs ls pc hk hP hD hS hd => W.iret hx hb hr (fun t ht hW => q_ri (u := (⟨q', o', d', tq', zs'⟩ : qS × qS × qS × qS × (Nat → qS))) hAe hk hP hD hS ht) hS.2.2 hd
  have hl := lv_entry ([.ref (b 0), .int p0]) (n := 2) (Nat.le_of_ble_eq_true rfl)
  rw [lg_entry_eq]
  generalize (lg_sl ([.ref (b 0), .int p0]) ++ List.replicate (2 - (lg_sl ([.ref (b 0), .int p0])).length) Slot.unset).toArray = ls at hl ⊢
  have hl : lv_has ls 2 [(0, .ref (b 0)), (1, .int p0)] := hl
  unfold wX9_save at h
  show W p l e rmX9_save s m #[.ref (b 0), .int p0] below meth c s.heap [] 0 0 _ _
  refine lv_aload_n hx hb dX9_save_0 rfl (lv_at hl 0 rfl) ?_
  refine va_get (D := G.1) (ci := 9) (v := .ref (b 3)) (C := RX9) (T := TX9) (N := 5) hx hb hts iX9_save_X9 hown hKn.k hP 18 rfl rfl 3 (by decide) (hts _ lX9_save_f29) (fun _ h9 => h9) rfl dX9_save_1 ?_
  refine lv_iload_n hx hb dX9_save_4 rfl (lv_at hl 1 rfl) ?_
  refine qc_vi (As := [.int p0]) (rest := []) ⟨hx, hb, hml, hown, hts⟩ (mX7_has l G _ _ a b g ae az q o d tq zs _ p0) (cwV 1 hts gX9_save_X7_has rfl rfl rfl (by decide +kernel) ⟨Nat.le_of_ble_eq_true rfl, Nat.le_of_ble_eq_true rfl⟩) hP hD hS hA hKn 21 7 rfl rfl rfl h rfl hl.1 rfl (Nat.le_of_ble_eq_true rfl) dX9_save_5 ⟨Nat.zero_le _, Nat.zero_le _⟩ (fun r1 u H locs h hP hD hS => ?_)
  obtain ⟨q2, o3, d4, tq5, zs6⟩ := u
  have hP : va_P G.1 vwCl (wQ G a q2 ++ (wO G a b ae g az o3 ++ (wD G g d4 ++ (wQ G ae tq5 ++ (wZ G az zs6 ++ R))))) H := hP
  have hD : va_D A (wQ G a q2 ++ (wO G a b ae g az o3 ++ (wD G g d4 ++ (wQ G ae tq5 ++ (wZ G az zs6 ++ R))))) := hD
  refine lv_if_ne (tgt := 14) hx hb dX9_save_8 (by decide) (fun c1 => ?_) (fun c1 => ?_)
  · have h := h.1 c1
    refine lv_aload_n hx hb dX9_save_14 rfl (lv_at hl 0 rfl) ?_
    refine va_get (D := G.1) (ci := 9) (v := .ref (b 3)) (C := RX9) (T := TX9) (N := 5) hx hb hts iX9_save_X9 hown hKn.k hP 18 rfl rfl 3 (by decide) (hts _ lX9_save_f29) (fun _ h9 => h9) rfl dX9_save_15 ?_
    refine lv_iload_n hx hb dX9_save_18 rfl (lv_at hl 1 rfl) ?_
    refine lv_aload_n hx hb dX9_save_19 rfl (lv_at hl 0 rfl) ?_
    refine va_get (D := G.1) (ci := 9) (v := .ref (a 0)) (C := RX9) (T := TX9) (N := 5) hx hb hts iX9_save_X9 hown hKn.k hP 18 rfl rfl 0 (by decide) (hts _ lX9_save_f10) (fun _ h9 => h9) rfl dX9_save_20 ?_
    refine qc_vv (As := [.int p0, .ref (a 0)]) (rest := []) ⟨hx, hb, hml, hown, hts⟩ (mX7_fill l G _ _ a b g ae az q2 o3 d4 tq5 zs6 _ p0) (cwV 2 hts gX9_save_X7_fill rfl rfl rfl (by decide +kernel) ⟨Nat.le_of_ble_eq_true rfl, Nat.le_of_ble_eq_true rfl⟩) hP hD hS hA hKn 21 7 rfl rfl rfl h rfl hl.1 rfl (Nat.le_of_ble_eq_true rfl) dX9_save_23 ⟨Nat.zero_le _, Nat.zero_le _⟩ (fun u H locs h hP hD hS => ?_)
    obtain ⟨q8, o9, d10, tq11, zs12⟩ := u
    have hP : va_P G.1 vwCl (wQ G a q8 ++ (wO G a b ae g az o9 ++ (wD G g d10 ++ (wQ G ae tq11 ++ (wZ G az zs12 ++ R))))) H := hP
    have hD : va_D A (wQ G a q8 ++ (wO G a b ae g az o9 ++ (wD G g d10 ++ (wQ G ae tq11 ++ (wZ G az zs12 ++ R))))) := hD
    refine lv_aload_n hx hb dX9_save_26 rfl (lv_at hl 0 rfl) ?_
    refine va_get (D := G.1) (ci := 9) (v := .ref (a 0)) (C := RX9) (T := TX9) (N := 5) hx hb hts iX9_save_X9 hown hKn.k hP 18 rfl rfl 0 (by decide) (hts _ lX9_save_f10) (fun _ h9 => h9) rfl dX9_save_27 ?_
    refine va_get (D := G.1) (ci := 6) (v := .ref (a 13)) (C := RX6) (T := TX6) (N := 10) hx hb hts iX9_save_X6 hown hKn.k hP 0 rfl rfl 1 (by decide) (hts _ lX9_save_f52) (fun _ h9 => h9) rfl dX9_save_30 ?_
    refine va_get (D := G.1) (ci := 3) (v := .int (q8 0 4)) (C := RX3) (T := TX3) (N := 5) hx hb hts iX9_save_X3 hown hKn.k hP 2 rfl rfl 4 (by decide) (hts _ lX9_save_f168) (fun _ h9 => h9) rfl dX9_save_33 ?_
    exact hret _ _ _ _ _ _ _ _ _ _ h hP hD hS dX9_save_36
  · have h := h.2 c1
    refine lv_bipush (v := (-2 : Int32)) hx hb dX9_save_11 (by decide) ?_
    exact hret _ _ _ _ _ _ _ _ _ _ h hP hD hS dX9_save_13
abbrev rmX9_restore : Room := { frames := 5, cells := 0, slots := 0, locals := 102 }
theorem lX9_restore_f10 : Cond.fieldLink RX9 10 "QuarryBlends" "now" "LQuarryBlends$Quarry;" ∈ wsX9_restore := by decide +kernel
theorem lX9_restore_f168 : Cond.fieldLink RX9 168 "QuarryBlends$Faces" "amount" "I" ∈ wsX9_restore := by decide +kernel
theorem lX9_restore_f22 : Cond.fieldLink RX9 22 "QuarryBlends" "history" "LQuarryBlends$History;" ∈ wsX9_restore := by decide +kernel
theorem lX9_restore_f240 : Cond.fieldLink RX9 240 "QuarryBlends$Slots" "filled" "[Z" ∈ wsX9_restore := by decide +kernel
theorem lX9_restore_f244 : Cond.fieldLink RX9 244 "QuarryBlends$Slots" "states" "[LQuarryBlends$Quarry;" ∈ wsX9_restore := by decide +kernel
theorem lX9_restore_f29 : Cond.fieldLink RX9 29 "QuarryBlends" "slots" "LQuarryBlends$Slots;" ∈ wsX9_restore := by decide +kernel
theorem lX9_restore_f52 : Cond.fieldLink RX9 52 "QuarryBlends$Quarry" "faces" "LQuarryBlends$Faces;" ∈ wsX9_restore := by decide +kernel
theorem iX9_restore_X3 : ∀ w ∈ wsX30, w ∈ wsX9_restore := by decide +kernel
theorem iX9_restore_X6 : ∀ w ∈ wsX60, w ∈ wsX9_restore := by decide +kernel
theorem iX9_restore_X7 : ∀ w ∈ wsX70, w ∈ wsX9_restore := by decide +kernel
theorem iX9_restore_X9 : ∀ w ∈ wsX90, w ∈ wsX9_restore := by decide +kernel
set_option maxHeartbeats 4000000 in
set_option maxRecDepth 100000 in
theorem mX9_restore (l : Launch) (G : qG) (k : Int32 → qS → qS → qS → qS → (Nat → qS) → Prop) (R : va_W) (a : Nat → Nat) (b : Nat → Nat) (g : Nat → Nat) (ae : Nat → Nat) (az : Nat → Nat → Nat) (q : qS) (o : qS) (d : qS) (tq : qS) (zs : (Nat → qS)) (sz : Nat) (p0 : Int32) : Met l yX9_restore wsX9_restore rmX9_restore (qPc G [.ref (b 0), .int p0] (wQ G a q ++ (wO G a b ae g az o ++ (wD G g d ++ (wQ G ae tq ++ (wZ G az zs ++ R))))) sz (wX9_restore k q o d tq zs p0)) (qQi G (wQ G a q ++ (wO G a b ae g az o ++ (wD G g d ++ (wQ G ae tq ++ (wZ G az zs ++ R))))) sz (fun (r : Int32) (u : qS × qS × qS × qS × (Nat → qS)) => k r u.1 u.2.1 u.2.2.1 u.2.2.2.1 u.2.2.2.2) (fun (u : qS × qS × qS × qS × (Nat → qS)) => wQ G a u.1 ++ (wO G a b ae g az u.2.1 ++ (wD G g u.2.2.1 ++ (wQ G ae u.2.2.2.1 ++ (wZ G az u.2.2.2.2 ++ R)))))) 0 0 (va_A (wQ G a q ++ (wO G a b ae g az o ++ (wD G g d ++ (wQ G ae tq ++ (wZ G az zs ++ R))))) sz) := by
  refine Met.ofW (cc := cX9_restore) (maxL := 2) (ret := (some .int)) (by decide) rfl ?_
  intro p e s m args below meth c s₁ B hml hv
  obtain ⟨rfl, hsz, hP, hD0, hKn0, h⟩ := hv
  have hx := B.exec
  have hb := B.bytes
  have hr := B.returns
  have hts := atoms_spec (ws := wsX9_restore) B.pre
  have hown : s.vm.findClass RX9 = some m.cls := findClass_of_methodNamed B.named
  have hlocks := B.notSynchronized
  subst hsz
  have hD := hD0.self (sz := s.heap.size)
  generalize hAe : va_A (wQ G a q ++ (wO G a b ae g az o ++ (wD G g d ++ (wQ G ae tq ++ (wZ G az zs ++ R))))) s.heap.size = A at hD hKn0 ⊢
  have hA : ∀ q : Nat, s.heap.size ≤ q → A q := fun q h => by rw [← hAe]; exact Or.inr h
  have hKn : qKn G A s s.heap := hKn0
  have hS : va_S A s.heap s.heap [] := va_S.rf
  have hret : ∀ (r : Int32) (q' : qS) (o' : qS) (d' : qS) (tq' : qS) (zs' : (Nat → qS)) (H : Heap) (locs : List Loc) (ls : Array Slot) (pc : Nat), k r q' o' d' tq' zs' → va_P G.1 vwCl (wQ G a q' ++ (wO G a b ae g az o' ++ (wD G g d' ++ (wQ G ae tq' ++ (wZ G az zs' ++ R))))) H → va_D A (wQ G a q' ++ (wO G a b ae g az o' ++ (wD G g d' ++ (wQ G ae tq' ++ (wZ G az zs' ++ R))))) → va_S A s.heap H locs → decode cX9_restore pc = .ok (.ireturn, 1) → W p l e rmX9_restore s m #[.ref (b 0), .int p0] below meth c H locs 0 0 (MQ below (qQi G (wQ G a q ++ (wO G a b ae g az o ++ (wD G g d ++ (wQ G ae tq ++ (wZ G az zs ++ R))))) s.heap.size (fun (r : Int32) (u : qS × qS × qS × qS × (Nat → qS)) => k r u.1 u.2.1 u.2.2.1 u.2.2.2.1 u.2.2.2.2) (fun (u : qS × qS × qS × qS × (Nat → qS)) => wQ G a u.1 ++ (wO G a b ae g az u.2.1 ++ (wD G g u.2.2.1 ++ (wQ G ae u.2.2.2.1 ++ (wZ G az u.2.2.2.2 ++ R)))))) #[.ref (b 0), .int p0] s 0 0 A) (F0 m pc ls [.int r]) := fun r q' o' d' tq' zs' H locs ls pc hk hP hD hS hd => W.iret hx hb hr (fun t ht hW => q_ri (u := (⟨q', o', d', tq', zs'⟩ : qS × qS × qS × qS × (Nat → qS))) hAe hk hP hD hS ht) hS.2.2 hd
  have hl := lv_entry ([.ref (b 0), .int p0]) (n := 2) (Nat.le_of_ble_eq_true rfl)
  rw [lg_entry_eq]
  generalize (lg_sl ([.ref (b 0), .int p0]) ++ List.replicate (2 - (lg_sl ([.ref (b 0), .int p0])).length) Slot.unset).toArray = ls at hl ⊢
  have hl : lv_has ls 2 [(0, .ref (b 0)), (1, .int p0)] := hl
  unfold wX9_restore at h
  show W p l e rmX9_restore s m #[.ref (b 0), .int p0] below meth c s.heap [] 0 0 _ _
  refine lv_aload_n hx hb dX9_restore_0 rfl (lv_at hl 0 rfl) ?_
  refine va_get (D := G.1) (ci := 9) (v := .ref (b 3)) (C := RX9) (T := TX9) (N := 5) hx hb hts iX9_restore_X9 hown hKn.k hP 18 rfl rfl 3 (by decide) (hts _ lX9_restore_f29) (fun _ h9 => h9) rfl dX9_restore_1 ?_
  refine lv_iload_n hx hb dX9_restore_4 rfl (lv_at hl 1 rfl) ?_
  refine qc_vi (As := [.int p0]) (rest := []) ⟨hx, hb, hml, hown, hts⟩ (mX7_has l G _ _ a b g ae az q o d tq zs _ p0) (cwV 1 hts gX9_restore_X7_has rfl rfl rfl (by decide +kernel) ⟨Nat.le_of_ble_eq_true rfl, Nat.le_of_ble_eq_true rfl⟩) hP hD hS hA hKn 21 7 rfl rfl rfl h rfl hl.1 rfl (Nat.le_of_ble_eq_true rfl) dX9_restore_5 ⟨Nat.zero_le _, Nat.zero_le _⟩ (fun r1 u H locs h hP hD hS => ?_)
  obtain ⟨q2, o3, d4, tq5, zs6⟩ := u
  have hP : va_P G.1 vwCl (wQ G a q2 ++ (wO G a b ae g az o3 ++ (wD G g d4 ++ (wQ G ae tq5 ++ (wZ G az zs6 ++ R))))) H := hP
  have hD : va_D A (wQ G a q2 ++ (wO G a b ae g az o3 ++ (wD G g d4 ++ (wQ G ae tq5 ++ (wZ G az zs6 ++ R))))) := hD
  refine lv_if_ne (tgt := 14) hx hb dX9_restore_8 (by decide) (fun c1 => ?_) (fun c1 => ?_)
  · have h := h.1 c1
    refine lv_aload_n hx hb dX9_restore_14 rfl (lv_at hl 0 rfl) ?_
    refine va_get (D := G.1) (ci := 9) (v := .ref (b 3)) (C := RX9) (T := TX9) (N := 5) hx hb hts iX9_restore_X9 hown hKn.k hP 18 rfl rfl 3 (by decide) (hts _ lX9_restore_f29) (fun _ h9 => h9) rfl dX9_restore_15 ?_
    refine va_get (D := G.1) (ci := 7) (v := .ref (b 4)) (C := RX7) (T := TX7) (N := 2) hx hb hts iX9_restore_X7 hown hKn.k hP 21 rfl rfl 1 (by decide) (hts _ lX9_restore_f240) (fun _ h9 => h9) rfl dX9_restore_18 ?_
    refine lv_iload_n hx hb dX9_restore_21 rfl (lv_at hl 1 rfl) ?_
    obtain ⟨hin, h⟩ := h
    refine va_zald hx hb hKn.k hP 22 1 rfl rfl hin dX9_restore_22 ?_
    refine lv_if_ne (tgt := 29) hx hb dX9_restore_23 (by decide) (fun c1 => ?_) (fun c1 => ?_)
    · have h := h.1 c1
      refine lv_aload_n hx hb dX9_restore_29 rfl (lv_at hl 0 rfl) ?_
      refine va_get (D := G.1) (ci := 9) (v := .ref (b 1)) (C := RX9) (T := TX9) (N := 5) hx hb hts iX9_restore_X9 hown hKn.k hP 18 rfl rfl 2 (by decide) (hts _ lX9_restore_f22) (fun _ h9 => h9) rfl dX9_restore_30 ?_
      refine lv_aload_n hx hb dX9_restore_33 rfl (lv_at hl 0 rfl) ?_
      refine va_get (D := G.1) (ci := 9) (v := .ref (a 0)) (C := RX9) (T := TX9) (N := 5) hx hb hts iX9_restore_X9 hown hKn.k hP 18 rfl rfl 0 (by decide) (hts _ lX9_restore_f10) (fun _ h9 => h9) rfl dX9_restore_34 ?_
      refine qc_vv (As := [.ref (a 0)]) (rest := []) ⟨hx, hb, hml, hown, hts⟩ (mX4_prepare l G _ _ a b g ae az q2 o3 d4 tq5 zs6 _ ) (cwV 1 hts gX9_restore_X4_prepare rfl rfl rfl (by decide +kernel) ⟨Nat.le_of_ble_eq_true rfl, Nat.le_of_ble_eq_true rfl⟩) hP hD hS hA hKn 19 4 rfl rfl rfl h rfl hl.1 rfl (Nat.le_of_ble_eq_true rfl) dX9_restore_37 ⟨Nat.zero_le _, Nat.zero_le _⟩ (fun u H locs h hP hD hS => ?_)
      obtain ⟨q8, o9, d10, tq11, zs12⟩ := u
      have hP : va_P G.1 vwCl (wQ G a q8 ++ (wO G a b ae g az o9 ++ (wD G g d10 ++ (wQ G ae tq11 ++ (wZ G az zs12 ++ R))))) H := hP
      have hD : va_D A (wQ G a q8 ++ (wO G a b ae g az o9 ++ (wD G g d10 ++ (wQ G ae tq11 ++ (wZ G az zs12 ++ R))))) := hD
      refine lv_aload_n hx hb dX9_restore_40 rfl (lv_at hl 0 rfl) ?_
      refine va_get (D := G.1) (ci := 9) (v := .ref (a 0)) (C := RX9) (T := TX9) (N := 5) hx hb hts iX9_restore_X9 hown hKn.k hP 18 rfl rfl 0 (by decide) (hts _ lX9_restore_f10) (fun _ h9 => h9) rfl dX9_restore_41 ?_
      refine lv_aload_n hx hb dX9_restore_44 rfl (lv_at hl 0 rfl) ?_
      refine va_get (D := G.1) (ci := 9) (v := .ref (b 3)) (C := RX9) (T := TX9) (N := 5) hx hb hts iX9_restore_X9 hown hKn.k hP 18 rfl rfl 3 (by decide) (hts _ lX9_restore_f29) (fun _ h9 => h9) rfl dX9_restore_45 ?_
      refine va_get (D := G.1) (ci := 7) (v := .ref (b 5)) (C := RX7) (T := TX7) (N := 2) hx hb hts iX9_restore_X7 hown hKn.k hP 21 rfl rfl 0 (by decide) (hts _ lX9_restore_f244) (fun _ h9 => h9) rfl dX9_restore_48 ?_
      refine lv_iload_n hx hb dX9_restore_51 rfl (lv_at hl 1 rfl) ?_
      obtain ⟨hin, h⟩ := h
      have hz := vp_lt hin
      refine va_aldq hx hb hKn.k hP 23 3 rfl rfl hin dX9_restore_52 ?_
      obtain ⟨hP, hD⟩ := q_perm (z_open (G := G) (zs := zs12) (i := 7 + Int32.toNatClampNeg p0) (by omega)) hP hD
      obtain ⟨hP, hD⟩ := q_perm ((((((((List.perm_append_comm_assoc _ _ _).append_left _).trans (List.perm_append_comm_assoc _ _ _)).append_left _).trans (List.perm_append_comm_assoc _ _ _)).append_left _).trans (List.perm_append_comm_assoc _ _ _)).trans (List.perm_append_comm_assoc _ _ _)) hP hD
      have hP : va_P G.1 vwCl (wQ G a q8 ++ (wQ G (az (7 + Int32.toNatClampNeg p0)) (zs12 (7 + Int32.toNatClampNeg p0)) ++ (wO G a b ae g az o9 ++ (wD G g d10 ++ (wQ G ae tq11 ++ (wZr G (7 + Int32.toNatClampNeg p0) az zs12 ++ R)))))) H := hP
      have hD : va_D A (wQ G a q8 ++ (wQ G (az (7 + Int32.toNatClampNeg p0)) (zs12 (7 + Int32.toNatClampNeg p0)) ++ (wO G a b ae g az o9 ++ (wD G g d10 ++ (wQ G ae tq11 ++ (wZr G (7 + Int32.toNatClampNeg p0) az zs12 ++ R)))))) := hD
      refine qc_vv (As := [.ref (az (7 + Int32.toNatClampNeg p0) 0)]) (rest := []) ⟨hx, hb, hml, hown, hts⟩ (mX6_copyFrom l G _ _ a (az (7 + Int32.toNatClampNeg p0)) q8 (zs12 (7 + Int32.toNatClampNeg p0)) _ ) (cwV 1 hts gX9_restore_X6_copyFrom rfl rfl rfl (by decide +kernel) ⟨Nat.le_of_ble_eq_true rfl, Nat.le_of_ble_eq_true rfl⟩) hP hD hS hA hKn 0 6 rfl rfl rfl h rfl hl.1 rfl (Nat.le_of_ble_eq_true rfl) dX9_restore_53 ⟨Nat.zero_le _, Nat.zero_le _⟩ (fun u H locs h hP hD hS => ?_)
      obtain ⟨q14, z15⟩ := u
      have hP : va_P G.1 vwCl (wQ G a q14 ++ (wQ G (az (7 + Int32.toNatClampNeg p0)) z15 ++ (wO G a b ae g az o9 ++ (wD G g d10 ++ (wQ G ae tq11 ++ (wZr G (7 + Int32.toNatClampNeg p0) az zs12 ++ R)))))) H := hP
      have hD : va_D A (wQ G a q14 ++ (wQ G (az (7 + Int32.toNatClampNeg p0)) z15 ++ (wO G a b ae g az o9 ++ (wD G g d10 ++ (wQ G ae tq11 ++ (wZr G (7 + Int32.toNatClampNeg p0) az zs12 ++ R)))))) := hD
      obtain ⟨hP, hD⟩ := q_perm (((((((((List.perm_append_comm_assoc _ _ _).append_left _).trans (List.perm_append_comm_assoc _ _ _)).append_left _).trans (List.perm_append_comm_assoc _ _ _)).append_left _).trans (List.perm_append_comm_assoc _ _ _)).trans (List.perm_append_comm_assoc _ _ _))).symm hP hD
      obtain ⟨hP, hD⟩ := q_perm (z_close (G := G) (zs := zs12) (i := 7 + Int32.toNatClampNeg p0) (by omega)) hP hD
      obtain ⟨zs16, ezs16⟩ : ∃ z : Nat → qS, z = upZ zs12 (7 + Int32.toNatClampNeg p0) z15 := ⟨_, rfl⟩
      rw [← ezs16] at hP hD
      have h := h zs16 ezs16
      have hP : va_P G.1 vwCl (wQ G a q14 ++ (wO G a b ae g az o9 ++ (wD G g d10 ++ (wQ G ae tq11 ++ (wZ G az zs16 ++ R))))) H := hP
      have hD : va_D A (wQ G a q14 ++ (wO G a b ae g az o9 ++ (wD G g d10 ++ (wQ G ae tq11 ++ (wZ G az zs16 ++ R))))) := hD
      refine lv_aload_n hx hb dX9_restore_56 rfl (lv_at hl 0 rfl) ?_
      refine lv_aload_n hx hb dX9_restore_57 rfl (lv_at hl 0 rfl) ?_
      refine va_get (D := G.1) (ci := 9) (v := .ref (a 0)) (C := RX9) (T := TX9) (N := 5) hx hb hts iX9_restore_X9 hown hKn.k hP 18 rfl rfl 0 (by decide) (hts _ lX9_restore_f10) (fun _ h9 => h9) rfl dX9_restore_58 ?_
      refine va_get (D := G.1) (ci := 6) (v := .ref (a 13)) (C := RX6) (T := TX6) (N := 10) hx hb hts iX9_restore_X6 hown hKn.k hP 0 rfl rfl 1 (by decide) (hts _ lX9_restore_f52) (fun _ h9 => h9) rfl dX9_restore_61 ?_
      refine va_get (D := G.1) (ci := 3) (v := .int (q14 0 4)) (C := RX3) (T := TX3) (N := 5) hx hb hts iX9_restore_X3 hown hKn.k hP 2 rfl rfl 4 (by decide) (hts _ lX9_restore_f168) (fun _ h9 => h9) rfl dX9_restore_64 ?_
      refine qc_vi (As := [.int (q14 0 4)]) (rest := []) ⟨hx, hb, hml, hown, hts⟩ (mX9_recorded l G _ _ a b g ae az q14 o9 d10 tq11 zs16 _ (q14 0 4)) (cwV 1 hts gX9_restore_X9_recorded rfl rfl rfl (by decide +kernel) ⟨Nat.le_of_ble_eq_true rfl, Nat.le_of_ble_eq_true rfl⟩) hP hD hS hA hKn 18 9 rfl rfl rfl h rfl hl.1 rfl (Nat.le_of_ble_eq_true rfl) dX9_restore_67 ⟨Nat.zero_le _, Nat.zero_le _⟩ (fun r17 u H locs h hP hD hS => ?_)
      obtain ⟨q18, o19, d20, tq21, zs22⟩ := u
      have hP : va_P G.1 vwCl (wQ G a q18 ++ (wO G a b ae g az o19 ++ (wD G g d20 ++ (wQ G ae tq21 ++ (wZ G az zs22 ++ R))))) H := hP
      have hD : va_D A (wQ G a q18 ++ (wO G a b ae g az o19 ++ (wD G g d20 ++ (wQ G ae tq21 ++ (wZ G az zs22 ++ R))))) := hD
      exact hret _ _ _ _ _ _ _ _ _ _ h hP hD hS dX9_restore_70
    · have h := h.2 c1
      refine lv_bipush (v := (-5 : Int32)) hx hb dX9_restore_26 (by decide) ?_
      exact hret _ _ _ _ _ _ _ _ _ _ h hP hD hS dX9_restore_28
  · have h := h.2 c1
    refine lv_bipush (v := (-2 : Int32)) hx hb dX9_restore_11 (by decide) ?_
    exact hret _ _ _ _ _ _ _ _ _ _ h hP hD hS dX9_restore_13
abbrev rmX9_obey : Room := { frames := 6, cells := 0, slots := 0, locals := 136 }
theorem lX9_obey_f10 : Cond.fieldLink RX9 10 "QuarryBlends" "now" "LQuarryBlends$Quarry;" ∈ wsX9_obey := by decide +kernel
theorem lX9_obey_f251 : Cond.fieldLink RX9 251 "QuarryBlends$Pad" "numbers" "[I" ∈ wsX9_obey := by decide +kernel
theorem lX9_obey_f254 : Cond.fieldLink RX9 254 "QuarryBlends$Pad" "order" "I" ∈ wsX9_obey := by decide +kernel
theorem lX9_obey_f36 : Cond.fieldLink RX9 36 "QuarryBlends" "pad" "LQuarryBlends$Pad;" ∈ wsX9_obey := by decide +kernel
theorem lX9_obey_f52 : Cond.fieldLink RX9 52 "QuarryBlends$Quarry" "faces" "LQuarryBlends$Faces;" ∈ wsX9_obey := by decide +kernel
theorem lX9_obey_f62 : Cond.fieldLink RX9 62 "QuarryBlends$Quarry" "contracts" "LQuarryBlends$Contracts;" ∈ wsX9_obey := by decide +kernel
theorem lX9_obey_f74 : Cond.fieldLink RX9 74 "QuarryBlends$Quarry" "crusher" "LQuarryBlends$Crusher;" ∈ wsX9_obey := by decide +kernel
theorem iX9_obey_X5 : ∀ w ∈ wsX50, w ∈ wsX9_obey := by decide +kernel
theorem iX9_obey_X6 : ∀ w ∈ wsX60, w ∈ wsX9_obey := by decide +kernel
theorem iX9_obey_X9 : ∀ w ∈ wsX90, w ∈ wsX9_obey := by decide +kernel
set_option maxHeartbeats 4000000 in
set_option maxRecDepth 100000 in
theorem mX9_obey (l : Launch) (G : qG) (k : Int32 → qS → qS → qS → qS → (Nat → qS) → Prop) (R : va_W) (a : Nat → Nat) (b : Nat → Nat) (g : Nat → Nat) (ae : Nat → Nat) (az : Nat → Nat → Nat) (q : qS) (o : qS) (d : qS) (tq : qS) (zs : (Nat → qS)) (sz : Nat) : Met l yX9_obey wsX9_obey rmX9_obey (qPc G [.ref (b 0)] (wQ G a q ++ (wO G a b ae g az o ++ (wD G g d ++ (wQ G ae tq ++ (wZ G az zs ++ R))))) sz (wX9_obey k q o d tq zs)) (qQi G (wQ G a q ++ (wO G a b ae g az o ++ (wD G g d ++ (wQ G ae tq ++ (wZ G az zs ++ R))))) sz (fun (r : Int32) (u : qS × qS × qS × qS × (Nat → qS)) => k r u.1 u.2.1 u.2.2.1 u.2.2.2.1 u.2.2.2.2) (fun (u : qS × qS × qS × qS × (Nat → qS)) => wQ G a u.1 ++ (wO G a b ae g az u.2.1 ++ (wD G g u.2.2.1 ++ (wQ G ae u.2.2.2.1 ++ (wZ G az u.2.2.2.2 ++ R)))))) 0 0 (va_A (wQ G a q ++ (wO G a b ae g az o ++ (wD G g d ++ (wQ G ae tq ++ (wZ G az zs ++ R))))) sz) := by
  refine Met.ofW (cc := cX9_obey) (maxL := 2) (ret := (some .int)) (by decide) rfl ?_
  intro p e s m args below meth c s₁ B hml hv
  obtain ⟨rfl, hsz, hP, hD0, hKn0, h⟩ := hv
  have hx := B.exec
  have hb := B.bytes
  have hr := B.returns
  have hts := atoms_spec (ws := wsX9_obey) B.pre
  have hown : s.vm.findClass RX9 = some m.cls := findClass_of_methodNamed B.named
  have hlocks := B.notSynchronized
  subst hsz
  have hD := hD0.self (sz := s.heap.size)
  generalize hAe : va_A (wQ G a q ++ (wO G a b ae g az o ++ (wD G g d ++ (wQ G ae tq ++ (wZ G az zs ++ R))))) s.heap.size = A at hD hKn0 ⊢
  have hA : ∀ q : Nat, s.heap.size ≤ q → A q := fun q h => by rw [← hAe]; exact Or.inr h
  have hKn : qKn G A s s.heap := hKn0
  have hS : va_S A s.heap s.heap [] := va_S.rf
  have hret : ∀ (r : Int32) (q' : qS) (o' : qS) (d' : qS) (tq' : qS) (zs' : (Nat → qS)) (H : Heap) (locs : List Loc) (ls : Array Slot) (pc : Nat), k r q' o' d' tq' zs' → va_P G.1 vwCl (wQ G a q' ++ (wO G a b ae g az o' ++ (wD G g d' ++ (wQ G ae tq' ++ (wZ G az zs' ++ R))))) H → va_D A (wQ G a q' ++ (wO G a b ae g az o' ++ (wD G g d' ++ (wQ G ae tq' ++ (wZ G az zs' ++ R))))) → va_S A s.heap H locs → decode cX9_obey pc = .ok (.ireturn, 1) → W p l e rmX9_obey s m #[.ref (b 0)] below meth c H locs 0 0 (MQ below (qQi G (wQ G a q ++ (wO G a b ae g az o ++ (wD G g d ++ (wQ G ae tq ++ (wZ G az zs ++ R))))) s.heap.size (fun (r : Int32) (u : qS × qS × qS × qS × (Nat → qS)) => k r u.1 u.2.1 u.2.2.1 u.2.2.2.1 u.2.2.2.2) (fun (u : qS × qS × qS × qS × (Nat → qS)) => wQ G a u.1 ++ (wO G a b ae g az u.2.1 ++ (wD G g u.2.2.1 ++ (wQ G ae u.2.2.2.1 ++ (wZ G az u.2.2.2.2 ++ R)))))) #[.ref (b 0)] s 0 0 A) (F0 m pc ls [.int r]) := fun r q' o' d' tq' zs' H locs ls pc hk hP hD hS hd => W.iret hx hb hr (fun t ht hW => q_ri (u := (⟨q', o', d', tq', zs'⟩ : qS × qS × qS × qS × (Nat → qS))) hAe hk hP hD hS ht) hS.2.2 hd
  have hl := lv_entry ([.ref (b 0)]) (n := 2) (Nat.le_of_ble_eq_true rfl)
  rw [lg_entry_eq]
  generalize (lg_sl ([.ref (b 0)]) ++ List.replicate (2 - (lg_sl ([.ref (b 0)])).length) Slot.unset).toArray = ls at hl ⊢
  have hl : lv_has ls 2 [(0, .ref (b 0))] := hl
  unfold wX9_obey at h
  show W p l e rmX9_obey s m #[.ref (b 0)] below meth c s.heap [] 0 0 _ _
  refine lv_aload_n hx hb dX9_obey_0 rfl (lv_at hl 0 rfl) ?_
  refine va_get (D := G.1) (ci := 9) (v := .ref (g 0)) (C := RX9) (T := TX9) (N := 5) hx hb hts iX9_obey_X9 hown hKn.k hP 18 rfl rfl 4 (by decide) (hts _ lX9_obey_f36) (fun _ h9 => h9) rfl dX9_obey_1 ?_
  refine va_get (D := G.1) (ci := 5) (v := .ref (g 2)) (C := RX5) (T := TX5) (N := 6) hx hb hts iX9_obey_X5 hown hKn.k hP 24 rfl rfl 4 (by decide) (hts _ lX9_obey_f251) (fun _ h9 => h9) rfl dX9_obey_4 ?_
  refine lv_astore_n (lv' := [(1, .ref (g 2)), (0, .ref (b 0))]) hx hb dX9_obey_7 rfl hl (by decide) rfl (fun ls hl => ?_)
  refine lv_aload_n hx hb dX9_obey_8 rfl (lv_at hl 1 rfl) ?_
  refine va_get (D := G.1) (ci := 9) (v := .ref (g 0)) (C := RX9) (T := TX9) (N := 5) hx hb hts iX9_obey_X9 hown hKn.k hP 18 rfl rfl 4 (by decide) (hts _ lX9_obey_f36) (fun _ h9 => h9) rfl dX9_obey_9 ?_
  refine va_get (D := G.1) (ci := 5) (v := .int (d 0 2)) (C := RX5) (T := TX5) (N := 6) hx hb hts iX9_obey_X5 hown hKn.k hP 24 rfl rfl 3 (by decide) (hts _ lX9_obey_f254) (fun _ h9 => h9) rfl dX9_obey_12 ?_
  by_cases c0 : (d 0 2) = (0 : Int32)
  · refine lv_tableIn (tgt := 52) hx hb dX9_obey_15 (by rw [c0]; decide) (by rw [c0]; decide) (by rw [c0]; rfl) (by decide) ?_
    have h := (h.1) c0
    refine lv_aload_n hx hb dX9_obey_52 rfl (lv_at hl 1 rfl) ?_
    refine va_get (D := G.1) (ci := 9) (v := .ref (a 0)) (C := RX9) (T := TX9) (N := 5) hx hb hts iX9_obey_X9 hown hKn.k hP 18 rfl rfl 0 (by decide) (hts _ lX9_obey_f10) (fun _ h9 => h9) rfl dX9_obey_53 ?_
    refine va_get (D := G.1) (ci := 6) (v := .ref (a 13)) (C := RX6) (T := TX6) (N := 10) hx hb hts iX9_obey_X6 hown hKn.k hP 0 rfl rfl 1 (by decide) (hts _ lX9_obey_f52) (fun _ h9 => h9) rfl dX9_obey_56 ?_
    refine lv_aload_n hx hb dX9_obey_59 rfl (lv_at hl 0 rfl) ?_
    refine lv_iconst (v := (0 : Int32)) hx hb dX9_obey_60 (by decide) ?_
    refine va_iald hx hb hKn.k hP 26 0 rfl rfl (by unfold vp_in; decide) dX9_obey_61 ?_
    refine lv_aload_n hx hb dX9_obey_62 rfl (lv_at hl 0 rfl) ?_
    refine lv_iconst (v := (1 : Int32)) hx hb dX9_obey_63 (by decide) ?_
    refine va_iald hx hb hKn.k hP 26 0 rfl rfl (by unfold vp_in; decide) dX9_obey_64 ?_
    refine lv_aload_n hx hb dX9_obey_65 rfl (lv_at hl 0 rfl) ?_
    refine lv_iconst (v := (2 : Int32)) hx hb dX9_obey_66 (by decide) ?_
    refine va_iald hx hb hKn.k hP 26 0 rfl rfl (by unfold vp_in; decide) dX9_obey_67 ?_
    refine qc_vi (As := [.int (d 2 0), .int (d 2 1), .int (d 2 2)]) (rest := []) ⟨hx, hb, hml, hown, hts⟩ (mX3_add l G _ _ a q _ (d 2 0) (d 2 1) (d 2 2)) (cwV 3 hts gX9_obey_X3_add rfl rfl rfl (by decide +kernel) ⟨Nat.le_of_ble_eq_true rfl, Nat.le_of_ble_eq_true rfl⟩) hP hD hS hA hKn 2 3 rfl rfl rfl h rfl hl.1 rfl (Nat.le_of_ble_eq_true rfl) dX9_obey_68 ⟨Nat.zero_le _, Nat.zero_le _⟩ (fun r1 q2 H locs h hP hD hS => ?_)
    have hP : va_P G.1 vwCl (wQ G a q2 ++ (wO G a b ae g az o ++ (wD G g d ++ (wQ G ae tq ++ (wZ G az zs ++ R))))) H := hP
    have hD : va_D A (wQ G a q2 ++ (wO G a b ae g az o ++ (wD G g d ++ (wQ G ae tq ++ (wZ G az zs ++ R))))) := hD
    exact hret _ _ _ _ _ _ _ _ _ _ h hP hD hS dX9_obey_71
  · skip
    by_cases c1 : (d 0 2) = (1 : Int32)
    · refine lv_tableIn (tgt := 72) hx hb dX9_obey_15 (by rw [c1]; decide) (by rw [c1]; decide) (by rw [c1]; rfl) (by decide) ?_
      have h := (h.2.1) c1
      refine lv_aload_n hx hb dX9_obey_72 rfl (lv_at hl 1 rfl) ?_
      refine va_get (D := G.1) (ci := 9) (v := .ref (a 0)) (C := RX9) (T := TX9) (N := 5) hx hb hts iX9_obey_X9 hown hKn.k hP 18 rfl rfl 0 (by decide) (hts _ lX9_obey_f10) (fun _ h9 => h9) rfl dX9_obey_73 ?_
      refine va_get (D := G.1) (ci := 6) (v := .ref (a 16)) (C := RX6) (T := TX6) (N := 10) hx hb hts iX9_obey_X6 hown hKn.k hP 0 rfl rfl 4 (by decide) (hts _ lX9_obey_f62) (fun _ h9 => h9) rfl dX9_obey_76 ?_
      refine lv_aload_n hx hb dX9_obey_79 rfl (lv_at hl 0 rfl) ?_
      refine lv_iconst (v := (0 : Int32)) hx hb dX9_obey_80 (by decide) ?_
      refine va_iald hx hb hKn.k hP 26 0 rfl rfl (by unfold vp_in; decide) dX9_obey_81 ?_
      refine lv_aload_n hx hb dX9_obey_82 rfl (lv_at hl 0 rfl) ?_
      refine lv_iconst (v := (1 : Int32)) hx hb dX9_obey_83 (by decide) ?_
      refine va_iald hx hb hKn.k hP 26 0 rfl rfl (by unfold vp_in; decide) dX9_obey_84 ?_
      refine lv_aload_n hx hb dX9_obey_85 rfl (lv_at hl 0 rfl) ?_
      refine lv_iconst (v := (2 : Int32)) hx hb dX9_obey_86 (by decide) ?_
      refine va_iald hx hb hKn.k hP 26 0 rfl rfl (by unfold vp_in; decide) dX9_obey_87 ?_
      refine lv_aload_n hx hb dX9_obey_88 rfl (lv_at hl 0 rfl) ?_
      refine lv_iconst (v := (3 : Int32)) hx hb dX9_obey_89 (by decide) ?_
      refine va_iald hx hb hKn.k hP 26 0 rfl rfl (by unfold vp_in; decide) dX9_obey_90 ?_
      refine lv_aload_n hx hb dX9_obey_91 rfl (lv_at hl 0 rfl) ?_
      refine lv_iconst (v := (4 : Int32)) hx hb dX9_obey_92 (by decide) ?_
      refine va_iald hx hb hKn.k hP 26 0 rfl rfl (by unfold vp_in; decide) dX9_obey_93 ?_
      refine lv_aload_n hx hb dX9_obey_94 rfl (lv_at hl 0 rfl) ?_
      refine lv_iconst (v := (5 : Int32)) hx hb dX9_obey_95 (by decide) ?_
      refine va_iald hx hb hKn.k hP 26 0 rfl rfl (by unfold vp_in; decide) dX9_obey_96 ?_
      refine qc_vi (As := [.int (d 2 0), .int (d 2 1), .int (d 2 2), .int (d 2 3), .int (d 2 4), .int (d 2 5)]) (rest := []) ⟨hx, hb, hml, hown, hts⟩ (mX1_add l G _ _ a q _ (d 2 0) (d 2 1) (d 2 2) (d 2 3) (d 2 4) (d 2 5)) (cwV 6 hts gX9_obey_X1_add rfl rfl rfl (by decide +kernel) ⟨Nat.le_of_ble_eq_true rfl, Nat.le_of_ble_eq_true rfl⟩) hP hD hS hA hKn 15 1 rfl rfl rfl h rfl hl.1 rfl (Nat.le_of_ble_eq_true rfl) dX9_obey_97 ⟨Nat.zero_le _, Nat.zero_le _⟩ (fun r3 q4 H locs h hP hD hS => ?_)
      have hP : va_P G.1 vwCl (wQ G a q4 ++ (wO G a b ae g az o ++ (wD G g d ++ (wQ G ae tq ++ (wZ G az zs ++ R))))) H := hP
      have hD : va_D A (wQ G a q4 ++ (wO G a b ae g az o ++ (wD G g d ++ (wQ G ae tq ++ (wZ G az zs ++ R))))) := hD
      exact hret _ _ _ _ _ _ _ _ _ _ h hP hD hS dX9_obey_100
    · skip
      by_cases c2 : (d 0 2) = (2 : Int32)
      · refine lv_tableIn (tgt := 101) hx hb dX9_obey_15 (by rw [c2]; decide) (by rw [c2]; decide) (by rw [c2]; rfl) (by decide) ?_
        have h := (h.2.2.1) c2
        refine lv_aload_n hx hb dX9_obey_101 rfl (lv_at hl 1 rfl) ?_
        refine va_get (D := G.1) (ci := 9) (v := .ref (a 0)) (C := RX9) (T := TX9) (N := 5) hx hb hts iX9_obey_X9 hown hKn.k hP 18 rfl rfl 0 (by decide) (hts _ lX9_obey_f10) (fun _ h9 => h9) rfl dX9_obey_102 ?_
        refine lv_iconst (v := (3 : Int32)) hx hb dX9_obey_105 (by decide) ?_
        refine lv_aload_n hx hb dX9_obey_106 rfl (lv_at hl 0 rfl) ?_
        refine lv_iconst (v := (0 : Int32)) hx hb dX9_obey_107 (by decide) ?_
        refine va_iald hx hb hKn.k hP 26 0 rfl rfl (by unfold vp_in; decide) dX9_obey_108 ?_
        refine qc_vi (As := [.int (3 : Int32), .int (d 2 0)]) (rest := []) ⟨hx, hb, hml, hown, hts⟩ (mX6_changeSetting l G _ _ a q _ (3 : Int32) (d 2 0)) (cwV 2 hts gX9_obey_X6_changeSetting rfl rfl rfl (by decide +kernel) ⟨Nat.le_of_ble_eq_true rfl, Nat.le_of_ble_eq_true rfl⟩) hP hD hS hA hKn 0 6 rfl rfl rfl h rfl hl.1 rfl (Nat.le_of_ble_eq_true rfl) dX9_obey_109 ⟨Nat.zero_le _, Nat.zero_le _⟩ (fun r5 q6 H locs h hP hD hS => ?_)
        have hP : va_P G.1 vwCl (wQ G a q6 ++ (wO G a b ae g az o ++ (wD G g d ++ (wQ G ae tq ++ (wZ G az zs ++ R))))) H := hP
        have hD : va_D A (wQ G a q6 ++ (wO G a b ae g az o ++ (wD G g d ++ (wQ G ae tq ++ (wZ G az zs ++ R))))) := hD
        exact hret _ _ _ _ _ _ _ _ _ _ h hP hD hS dX9_obey_112
      · skip
        by_cases c3 : (d 0 2) = (3 : Int32)
        · refine lv_tableIn (tgt := 113) hx hb dX9_obey_15 (by rw [c3]; decide) (by rw [c3]; decide) (by rw [c3]; rfl) (by decide) ?_
          have h := (h.2.2.2.1) c3
          refine lv_aload_n hx hb dX9_obey_113 rfl (lv_at hl 1 rfl) ?_
          refine va_get (D := G.1) (ci := 9) (v := .ref (a 0)) (C := RX9) (T := TX9) (N := 5) hx hb hts iX9_obey_X9 hown hKn.k hP 18 rfl rfl 0 (by decide) (hts _ lX9_obey_f10) (fun _ h9 => h9) rfl dX9_obey_114 ?_
          refine lv_aload_n hx hb dX9_obey_117 rfl (lv_at hl 0 rfl) ?_
          refine lv_iconst (v := (0 : Int32)) hx hb dX9_obey_118 (by decide) ?_
          refine va_iald hx hb hKn.k hP 26 0 rfl rfl (by unfold vp_in; decide) dX9_obey_119 ?_
          refine qc_vi (As := [.int (d 2 0)]) (rest := []) ⟨hx, hb, hml, hown, hts⟩ (mX6_passDays l G _ _ a q _ (d 2 0)) (cwV 1 hts gX9_obey_X6_passDays rfl rfl rfl (by decide +kernel) ⟨Nat.le_of_ble_eq_true rfl, Nat.le_of_ble_eq_true rfl⟩) hP hD hS hA hKn 0 6 rfl rfl rfl h rfl hl.1 rfl (Nat.le_of_ble_eq_true rfl) dX9_obey_120 ⟨Nat.zero_le _, Nat.zero_le _⟩ (fun r7 q8 H locs h hP hD hS => ?_)
          have hP : va_P G.1 vwCl (wQ G a q8 ++ (wO G a b ae g az o ++ (wD G g d ++ (wQ G ae tq ++ (wZ G az zs ++ R))))) H := hP
          have hD : va_D A (wQ G a q8 ++ (wO G a b ae g az o ++ (wD G g d ++ (wQ G ae tq ++ (wZ G az zs ++ R))))) := hD
          exact hret _ _ _ _ _ _ _ _ _ _ h hP hD hS dX9_obey_123
        · skip
          by_cases c4 : (d 0 2) = (4 : Int32)
          · refine lv_tableIn (tgt := 124) hx hb dX9_obey_15 (by rw [c4]; decide) (by rw [c4]; decide) (by rw [c4]; rfl) (by decide) ?_
            have h := (h.2.2.2.2.1) c4
            refine lv_aload_n hx hb dX9_obey_124 rfl (lv_at hl 1 rfl) ?_
            refine va_get (D := G.1) (ci := 9) (v := .ref (a 0)) (C := RX9) (T := TX9) (N := 5) hx hb hts iX9_obey_X9 hown hKn.k hP 18 rfl rfl 0 (by decide) (hts _ lX9_obey_f10) (fun _ h9 => h9) rfl dX9_obey_125 ?_
            refine va_get (D := G.1) (ci := 6) (v := .ref (a 15)) (C := RX6) (T := TX6) (N := 10) hx hb hts iX9_obey_X6 hown hKn.k hP 0 rfl rfl 3 (by decide) (hts _ lX9_obey_f74) (fun _ h9 => h9) rfl dX9_obey_128 ?_
            refine qc_vi (As := []) (rest := []) ⟨hx, hb, hml, hown, hts⟩ (mX2_becomeAsNew l G _ _ a q _ ) (cwV 0 hts gX9_obey_X2_becomeAsNew rfl rfl rfl (by decide +kernel) ⟨Nat.le_of_ble_eq_true rfl, Nat.le_of_ble_eq_true rfl⟩) hP hD hS hA hKn 12 2 rfl rfl rfl h rfl hl.1 rfl (Nat.le_of_ble_eq_true rfl) dX9_obey_131 ⟨Nat.zero_le _, Nat.zero_le _⟩ (fun r9 q10 H locs h hP hD hS => ?_)
            have hP : va_P G.1 vwCl (wQ G a q10 ++ (wO G a b ae g az o ++ (wD G g d ++ (wQ G ae tq ++ (wZ G az zs ++ R))))) H := hP
            have hD : va_D A (wQ G a q10 ++ (wO G a b ae g az o ++ (wD G g d ++ (wQ G ae tq ++ (wZ G az zs ++ R))))) := hD
            exact hret _ _ _ _ _ _ _ _ _ _ h hP hD hS dX9_obey_134
          · skip
            by_cases c5 : (d 0 2) = (5 : Int32)
            · refine lv_tableIn (tgt := 135) hx hb dX9_obey_15 (by rw [c5]; decide) (by rw [c5]; decide) (by rw [c5]; rfl) (by decide) ?_
              have h := (h.2.2.2.2.2.1) c5
              refine lv_aload_n hx hb dX9_obey_135 rfl (lv_at hl 1 rfl) ?_
              refine va_get (D := G.1) (ci := 9) (v := .ref (a 0)) (C := RX9) (T := TX9) (N := 5) hx hb hts iX9_obey_X9 hown hKn.k hP 18 rfl rfl 0 (by decide) (hts _ lX9_obey_f10) (fun _ h9 => h9) rfl dX9_obey_136 ?_
              refine va_get (D := G.1) (ci := 6) (v := .ref (a 16)) (C := RX6) (T := TX6) (N := 10) hx hb hts iX9_obey_X6 hown hKn.k hP 0 rfl rfl 4 (by decide) (hts _ lX9_obey_f62) (fun _ h9 => h9) rfl dX9_obey_139 ?_
              refine lv_aload_n hx hb dX9_obey_142 rfl (lv_at hl 0 rfl) ?_
              refine lv_iconst (v := (0 : Int32)) hx hb dX9_obey_143 (by decide) ?_
              refine va_iald hx hb hKn.k hP 26 0 rfl rfl (by unfold vp_in; decide) dX9_obey_144 ?_
              refine qc_vi (As := [.int (d 2 0)]) (rest := []) ⟨hx, hb, hml, hown, hts⟩ (mX1_dropOne l G _ _ a q _ (d 2 0)) (cwV 1 hts gX9_obey_X1_dropOne rfl rfl rfl (by decide +kernel) ⟨Nat.le_of_ble_eq_true rfl, Nat.le_of_ble_eq_true rfl⟩) hP hD hS hA hKn 15 1 rfl rfl rfl h rfl hl.1 rfl (Nat.le_of_ble_eq_true rfl) dX9_obey_145 ⟨Nat.zero_le _, Nat.zero_le _⟩ (fun r11 q12 H locs h hP hD hS => ?_)
              have hP : va_P G.1 vwCl (wQ G a q12 ++ (wO G a b ae g az o ++ (wD G g d ++ (wQ G ae tq ++ (wZ G az zs ++ R))))) H := hP
              have hD : va_D A (wQ G a q12 ++ (wO G a b ae g az o ++ (wD G g d ++ (wQ G ae tq ++ (wZ G az zs ++ R))))) := hD
              exact hret _ _ _ _ _ _ _ _ _ _ h hP hD hS dX9_obey_148
            · skip
              refine lv_tableOut (tgt := 149) hx hb dX9_obey_15 (by have gc0 : ¬ ((d 0 2)).toInt = 0 := q_ti _ (0) c0; have gc1 : ¬ ((d 0 2)).toInt = 1 := q_ti _ (1) c1; have gc2 : ¬ ((d 0 2)).toInt = 2 := q_ti _ (2) c2; have gc3 : ¬ ((d 0 2)).toInt = 3 := q_ti _ (3) c3; have gc4 : ¬ ((d 0 2)).toInt = 4 := q_ti _ (4) c4; have gc5 : ¬ ((d 0 2)).toInt = 5 := q_ti _ (5) c5; omega) (by decide) ?_
              have h := h.2.2.2.2.2.2 c0 c1 c2 c3 c4 c5
              refine lv_bipush (v := (-3 : Int32)) hx hb dX9_obey_149 (by decide) ?_
              exact hret _ _ _ _ _ _ _ _ _ _ h hP hD hS dX9_obey_151
