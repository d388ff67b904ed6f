abbrev rmX0_init : Room := { frames := 1, cells := 0, slots := 0, locals := 12 }
theorem lX0_init_co : Cond.code objectInit ⟨#[0xb1]⟩ 1 none ∈ wsX0_init := by decide +kernel
theorem lX0_init_io : Cond.instanceMethod objectInit ∈ wsX0_init := by decide +kernel
theorem lX0_init_m3 : Cond.methodLink RX0 3 objectInit ∈ wsX0_init := by decide +kernel
set_option maxHeartbeats 4000000 in
set_option maxRecDepth 100000 in
theorem mX0_init (l : Launch) (G : qG) (h0 : Nat) (R : va_W) (sz : Nat) : Met l yX0_init wsX0_init rmX0_init (qPn G [.ref h0] ([(h0, .inr (0, [.int 0, .int 0, .int 0, .int 0, .int 0, .int 0, .int 0, .int 0]))] ++ R) sz) (qQv G ([(h0, .inr (0, [.int 0, .int 0, .int 0, .int 0, .int 0, .int 0, .int 0, .int 0]))] ++ R) sz (fun (u : Nat → Nat) => u 17 = h0) (fun (u : Nat → Nat) => [((u 17), .inr (0, [.int 0, .int 0, .int 0, .int 0, .int 0, .int 0, .int 0, .int 0]))] ++ R)) 0 0 (va_A ([(h0, .inr (0, [.int 0, .int 0, .int 0, .int 0, .int 0, .int 0, .int 0, .int 0]))] ++ R) sz) := by
  refine Met.ofW (cc := cX0_init) (maxL := 1) (ret := none) (by decide) rfl ?_
  intro p e s m args below meth c s₁ B hml hv
  obtain ⟨rfl, hsz, hP, hD0, hKn0, hEx0⟩ := hv
  have hx := B.exec
  have hb := B.bytes
  have hr := B.returns
  have hts := atoms_spec (ws := wsX0_init) B.pre
  have hown : s.vm.findClass RX0 = some m.cls := findClass_of_methodNamed B.named
  have hlocks := B.notSynchronized
  have hin : meth.name = "<init>" := (name_of_methodNamed B.named B.method).1
  subst hsz
  have hD := hD0.self (sz := s.heap.size)
  generalize hAe : va_A ([(h0, .inr (0, [.int 0, .int 0, .int 0, .int 0, .int 0, .int 0, .int 0, .int 0]))] ++ R) s.heap.size = A at hD hKn0 hEx0 ⊢
  have hA : ∀ q : Nat, s.heap.size ≤ q → A q := fun q h => by rw [← hAe]; exact Or.inr h
  have hKn : qKn G A s s.heap := hKn0
  have hEx : qEx G A s s.heap := hEx0
  have hS : va_S A s.heap s.heap [] := va_S.rf
  have hl := lv_entry ([.ref h0]) (n := 1) (Nat.le_of_ble_eq_true rfl)
  rw [lg_entry_eq]
  generalize (lg_sl ([.ref h0]) ++ List.replicate (1 - (lg_sl ([.ref h0])).length) Slot.unset).toArray = ls at hl ⊢
  have hl : lv_has ls 1 [(0, .ref h0)] := hl
  show W p l e rmX0_init s m #[.ref h0] below meth c s.heap [] 0 0 _ _
  refine lv_aload_n hx hb dX0_init_0 rfl (lv_at hl 0 rfl) ?_
  refine W.objInit hx hb hown (hts _ lX0_init_m3) (hts _ lX0_init_io) (hts _ lX0_init_co) rfl (by rw [hml]; exact hl.1) rfl dX0_init_1 (Nat.le_of_ble_eq_true rfl) (Nat.le_of_ble_eq_true rfl) ?_
  refine W.eq (g2 := F0 m 4 ls []) rfl ?_
  have hP : va_P G.1 vwCl ([(h0, .inr (0, [.int 0, .int 0, .int 0, .int 0, .int 0, .int 0, .int 0, .int 0]))] ++ R) _ := hP
  have hD : va_D A ([(h0, .inr (0, [.int 0, .int 0, .int 0, .int 0, .int 0, .int 0, .int 0, .int 0]))] ++ R) := hD
  exact W.vret hx hb hr (fun t ht hW => q_rv (post := fun (u : Nat → Nat) => u 17 = h0) (W' := fun (u : Nat → Nat) => [((u 17), .inr (0, [.int 0, .int 0, .int 0, .int 0, .int 0, .int 0, .int 0, .int 0]))] ++ R) (u := ((fun n => (if n = 17 then h0 else 0)) : Nat → Nat)) hAe rfl hP hD hS ht) hS.2.2 dX0_init_4
abbrev rmX1_init : Room := { frames := 1, cells := 1, slots := 72, locals := 12 }
theorem lX1_init_aint : Cond.arrayClass .int ∈ wsX1_init := by decide +kernel
theorem lX1_init_co : Cond.code objectInit ⟨#[0xb1]⟩ 1 none ∈ wsX1_init := by decide +kernel
theorem lX1_init_f9 : Cond.fieldLink RX1 9 "QuarryBlends$Contracts" "terms" "[I" ∈ wsX1_init := by decide +kernel
theorem lX1_init_io : Cond.instanceMethod objectInit ∈ wsX1_init := by decide +kernel
theorem lX1_init_m3 : Cond.methodLink RX1 3 objectInit ∈ wsX1_init := by decide +kernel
theorem iX1_init_X1 : ∀ w ∈ wsX10, w ∈ wsX1_init := by decide +kernel
set_option maxHeartbeats 4000000 in
set_option maxRecDepth 100000 in
theorem mX1_init (l : Launch) (G : qG) (h0 : Nat) (R : va_W) (sz : Nat) : Met l yX1_init wsX1_init rmX1_init (qPn G [.ref h0] ([(h0, .inr (1, [.null, .int 0]))] ++ R) sz) (qQv G ([(h0, .inr (1, [.null, .int 0]))] ++ R) sz (fun (u : Nat → Nat) => u 16 = h0) (fun (u : Nat → Nat) => [((u 16), .inr (1, [.ref (u 12), .int 0])), ((u 12), .inl (G.2.1 0, 72, .inl (fun _ => 0)))] ++ R)) 1 72 (va_A ([(h0, .inr (1, [.null, .int 0]))] ++ R) sz) := by
  refine Met.ofW (cc := cX1_init) (maxL := 1) (ret := none) (by decide) rfl ?_
  intro p e s m args below meth c s₁ B hml hv
  obtain ⟨rfl, hsz, hP, hD0, hKn0, hEx0⟩ := hv
  have hx := B.exec
  have hb := B.bytes
  have hr := B.returns
  have hts := atoms_spec (ws := wsX1_init) B.pre
  have hown : s.vm.findClass RX1 = some m.cls := findClass_of_methodNamed B.named
  have hlocks := B.notSynchronized
  have hin : meth.name = "<init>" := (name_of_methodNamed B.named B.method).1
  subst hsz
  have hD := hD0.self (sz := s.heap.size)
  generalize hAe : va_A ([(h0, .inr (1, [.null, .int 0]))] ++ R) s.heap.size = A at hD hKn0 hEx0 ⊢
  have hA : ∀ q : Nat, s.heap.size ≤ q → A q := fun q h => by rw [← hAe]; exact Or.inr h
  have hKn : qKn G A s s.heap := hKn0
  have hEx : qEx G A s s.heap := hEx0
  have hS : va_S A s.heap s.heap [] := va_S.rf
  have hl := lv_entry ([.ref h0]) (n := 1) (Nat.le_of_ble_eq_true rfl)
  rw [lg_entry_eq]
  generalize (lg_sl ([.ref h0]) ++ List.replicate (1 - (lg_sl ([.ref h0])).length) Slot.unset).toArray = ls at hl ⊢
  have hl : lv_has ls 1 [(0, .ref h0)] := hl
  show W p l e rmX1_init s m #[.ref h0] below meth c s.heap [] 0 0 _ _
  refine lv_aload_n hx hb dX1_init_0 rfl (lv_at hl 0 rfl) ?_
  refine W.objInit hx hb hown (hts _ lX1_init_m3) (hts _ lX1_init_io) (hts _ lX1_init_co) rfl (by rw [hml]; exact hl.1) rfl dX1_init_1 (Nat.le_of_ble_eq_true rfl) (Nat.le_of_ble_eq_true rfl) ?_
  refine W.eq (g2 := F0 m 4 ls []) rfl ?_
  refine lv_aload_n hx hb dX1_init_4 rfl (lv_at hl 0 rfl) ?_
  refine lv_bipush (v := (72 : Int32)) hx hb dX1_init_5 (by decide) ?_
  refine q_newa (atype := .int) (ty := .int) (N' := 72) (a0 := (72, .inl (fun _ => 0))) hx hb (hts _ lX1_init_aint) rfl hP hD hS hA hKn 0 rfl (fun _ h => h) (fun _ => rfl) (by decide) (by decide) (Nat.le_of_ble_eq_true rfl) (Nat.le_of_ble_eq_true rfl) (Nat.le_of_ble_eq_true rfl) dX1_init_7 (fun q1 H hP hD hS => ?_)
  have hP : va_P G.1 vwCl ([(q1, .inl (G.2.1 0, 72, .inl (fun _ => 0)))] ++ ([(h0, .inr (1, [.null, .int 0]))] ++ R)) H := hP
  have hD : va_D A ([(q1, .inl (G.2.1 0, 72, .inl (fun _ => 0)))] ++ ([(h0, .inr (1, [.null, .int 0]))] ++ R)) := hD
  refine W.widen (k := 1) (n := 72) (Nat.le_of_ble_eq_true rfl) (Nat.le_of_ble_eq_true rfl) ?_
  refine va_putF (D := G.1) (ci := 1) (v := .ref q1) (ty := .array .int) (C := RX1) (T := TX1) (N := 2) hx hb hts iX1_init_X1 tyX1 tyX1_ok nmX1 hown hKn.k hP hD hS 1 rfl rfl 0 (by decide) (hts _ lX1_init_f9) (fun _ h9 => h9) rfl hin rfl (by decide +kernel) rfl rfl (Nat.le_of_ble_eq_true rfl) dX1_init_9 (fun H locs hP hD hS => ?_)
  have hP : va_P G.1 vwCl ([(q1, .inl (G.2.1 0, 72, .inl (fun _ => 0)))] ++ ([(h0, .inr (1, [.ref q1, .int 0]))] ++ R)) H := hP
  have hD : va_D A ([(q1, .inl (G.2.1 0, 72, .inl (fun _ => 0)))] ++ ([(h0, .inr (1, [.ref q1, .int 0]))] ++ R)) := hD
  obtain ⟨hP, hD⟩ := q_perm (List.perm_append_comm_assoc _ _ _) hP hD
  have hP : va_P G.1 vwCl ([(h0, .inr (1, [.ref q1, .int 0]))] ++ ([(q1, .inl (G.2.1 0, 72, .inl (fun _ => 0)))] ++ R)) _ := hP
  have hD : va_D A ([(h0, .inr (1, [.ref q1, .int 0]))] ++ ([(q1, .inl (G.2.1 0, 72, .inl (fun _ => 0)))] ++ R)) := hD
  exact W.vret hx hb hr (fun t ht hW => q_rv (post := fun (u : Nat → Nat) => u 16 = h0) (W' := fun (u : Nat → Nat) => [((u 16), .inr (1, [.ref (u 12), .int 0])), ((u 12), .inl (G.2.1 0, 72, .inl (fun _ => 0)))] ++ R) (u := ((fun n => (if n = 16 then h0 else (if n = 12 then q1 else 0))) : Nat → Nat)) hAe rfl hP hD hS ht) hS.2.2 dX1_init_12
abbrev rmX2_init : Room := { frames := 1, cells := 2, slots := 13, locals := 12 }
theorem lX2_init_aint : Cond.arrayClass .int ∈ wsX2_init := by decide +kernel
theorem lX2_init_co : Cond.code objectInit ⟨#[0xb1]⟩ 1 none ∈ wsX2_init := by decide +kernel
theorem lX2_init_f15 : Cond.fieldLink RX2 15 "QuarryBlends$Crusher" "bins" "[I" ∈ wsX2_init := by decide +kernel
theorem lX2_init_f9 : Cond.fieldLink RX2 9 "QuarryBlends$Crusher" "uncrushed" "[I" ∈ wsX2_init := by decide +kernel
theorem lX2_init_io : Cond.instanceMethod objectInit ∈ wsX2_init := by decide +kernel
theorem lX2_init_m3 : Cond.methodLink RX2 3 objectInit ∈ wsX2_init := by decide +kernel
theorem iX2_init_X2 : ∀ w ∈ wsX20, w ∈ wsX2_init := by decide +kernel
set_option maxHeartbeats 4000000 in
set_option maxRecDepth 100000 in
theorem mX2_init (l : Launch) (G : qG) (h0 : Nat) (R : va_W) (sz : Nat) : Met l yX2_init wsX2_init rmX2_init (qPn G [.ref h0] ([(h0, .inr (2, [.null, .null, .int 0, .int 0]))] ++ R) sz) (qQv G ([(h0, .inr (2, [.null, .null, .int 0, .int 0]))] ++ R) sz (fun (u : Nat → Nat) => u 15 = h0) (fun (u : Nat → Nat) => [((u 15), .inr (2, [.ref (u 10), .ref (u 11), .int 0, .int 0])), ((u 10), .inl (G.2.1 0, 10, .inl (fun _ => 0))), ((u 11), .inl (G.2.1 0, 3, .inl (fun _ => 0)))] ++ R)) 2 13 (va_A ([(h0, .inr (2, [.null, .null, .int 0, .int 0]))] ++ R) sz) := by
  refine Met.ofW (cc := cX2_init) (maxL := 1) (ret := none) (by decide) rfl ?_
  intro p e s m args below meth c s₁ B hml hv
  obtain ⟨rfl, hsz, hP, hD0, hKn0, hEx0⟩ := hv
  have hx := B.exec
  have hb := B.bytes
  have hr := B.returns
  have hts := atoms_spec (ws := wsX2_init) B.pre
  have hown : s.vm.findClass RX2 = some m.cls := findClass_of_methodNamed B.named
  have hlocks := B.notSynchronized
  have hin : meth.name = "<init>" := (name_of_methodNamed B.named B.method).1
  subst hsz
  have hD := hD0.self (sz := s.heap.size)
  generalize hAe : va_A ([(h0, .inr (2, [.null, .null, .int 0, .int 0]))] ++ R) s.heap.size = A at hD hKn0 hEx0 ⊢
  have hA : ∀ q : Nat, s.heap.size ≤ q → A q := fun q h => by rw [← hAe]; exact Or.inr h
  have hKn : qKn G A s s.heap := hKn0
  have hEx : qEx G A s s.heap := hEx0
  have hS : va_S A s.heap s.heap [] := va_S.rf
  have hl := lv_entry ([.ref h0]) (n := 1) (Nat.le_of_ble_eq_true rfl)
  rw [lg_entry_eq]
  generalize (lg_sl ([.ref h0]) ++ List.replicate (1 - (lg_sl ([.ref h0])).length) Slot.unset).toArray = ls at hl ⊢
  have hl : lv_has ls 1 [(0, .ref h0)] := hl
  show W p l e rmX2_init s m #[.ref h0] below meth c s.heap [] 0 0 _ _
  refine lv_aload_n hx hb dX2_init_0 rfl (lv_at hl 0 rfl) ?_
  refine W.objInit hx hb hown (hts _ lX2_init_m3) (hts _ lX2_init_io) (hts _ lX2_init_co) rfl (by rw [hml]; exact hl.1) rfl dX2_init_1 (Nat.le_of_ble_eq_true rfl) (Nat.le_of_ble_eq_true rfl) ?_
  refine W.eq (g2 := F0 m 4 ls []) rfl ?_
  refine lv_aload_n hx hb dX2_init_4 rfl (lv_at hl 0 rfl) ?_
  refine lv_bipush (v := (10 : Int32)) hx hb dX2_init_5 (by decide) ?_
  refine q_newa (atype := .int) (ty := .int) (N' := 10) (a0 := (10, .inl (fun _ => 0))) hx hb (hts _ lX2_init_aint) rfl hP hD hS hA hKn 0 rfl (fun _ h => h) (fun _ => rfl) (by decide) (by decide) (Nat.le_of_ble_eq_true rfl) (Nat.le_of_ble_eq_true rfl) (Nat.le_of_ble_eq_true rfl) dX2_init_7 (fun q1 H hP hD hS => ?_)
  have hP : va_P G.1 vwCl ([(q1, .inl (G.2.1 0, 10, .inl (fun _ => 0)))] ++ ([(h0, .inr (2, [.null, .null, .int 0, .int 0]))] ++ R)) H := hP
  have hD : va_D A ([(q1, .inl (G.2.1 0, 10, .inl (fun _ => 0)))] ++ ([(h0, .inr (2, [.null, .null, .int 0, .int 0]))] ++ R)) := hD
  refine W.widen (k := 1) (n := 10) (Nat.le_of_ble_eq_true rfl) (Nat.le_of_ble_eq_true rfl) ?_
  refine va_putF (D := G.1) (ci := 2) (v := .ref q1) (ty := .array .int) (C := RX2) (T := TX2) (N := 4) hx hb hts iX2_init_X2 tyX2 tyX2_ok nmX2 hown hKn.k hP hD hS 1 rfl rfl 0 (by decide) (hts _ lX2_init_f9) (fun _ h9 => h9) rfl hin rfl (by decide +kernel) rfl rfl (Nat.le_of_ble_eq_true rfl) dX2_init_9 (fun H locs hP hD hS => ?_)
  have hP : va_P G.1 vwCl ([(q1, .inl (G.2.1 0, 10, .inl (fun _ => 0)))] ++ ([(h0, .inr (2, [.ref q1, .null, .int 0, .int 0]))] ++ R)) H := hP
  have hD : va_D A ([(q1, .inl (G.2.1 0, 10, .inl (fun _ => 0)))] ++ ([(h0, .inr (2, [.ref q1, .null, .int 0, .int 0]))] ++ R)) := hD
  refine lv_aload_n hx hb dX2_init_12 rfl (lv_at hl 0 rfl) ?_
  refine lv_iconst (v := (3 : Int32)) hx hb dX2_init_13 (by decide) ?_
  refine q_newa (atype := .int) (ty := .int) (N' := 3) (a0 := (3, .inl (fun _ => 0))) hx hb (hts _ lX2_init_aint) rfl hP hD hS hA hKn 0 rfl (fun _ h => h) (fun _ => rfl) (by decide) (by decide) (Nat.le_of_ble_eq_true rfl) (Nat.le_of_ble_eq_true rfl) (Nat.le_of_ble_eq_true rfl) dX2_init_14 (fun q2 H hP hD hS => ?_)
  have hP : va_P G.1 vwCl ([(q2, .inl (G.2.1 0, 3, .inl (fun _ => 0)))] ++ ([(q1, .inl (G.2.1 0, 10, .inl (fun _ => 0)))] ++ ([(h0, .inr (2, [.ref q1, .null, .int 0, .int 0]))] ++ R))) H := hP
  have hD : va_D A ([(q2, .inl (G.2.1 0, 3, .inl (fun _ => 0)))] ++ ([(q1, .inl (G.2.1 0, 10, .inl (fun _ => 0)))] ++ ([(h0, .inr (2, [.ref q1, .null, .int 0, .int 0]))] ++ R))) := hD
  refine W.widen (k := 2) (n := 13) (Nat.le_of_ble_eq_true rfl) (Nat.le_of_ble_eq_true rfl) ?_
  refine va_putF (D := G.1) (ci := 2) (v := .ref q2) (ty := .array .int) (C := RX2) (T := TX2) (N := 4) hx hb hts iX2_init_X2 tyX2 tyX2_ok nmX2 hown hKn.k hP hD hS 2 rfl rfl 1 (by decide) (hts _ lX2_init_f15) (fun _ h9 => h9) rfl hin rfl (by decide +kernel) rfl rfl (Nat.le_of_ble_eq_true rfl) dX2_init_16 (fun H locs hP hD hS => ?_)
  have hP : va_P G.1 vwCl ([(q2, .inl (G.2.1 0, 3, .inl (fun _ => 0)))] ++ ([(q1, .inl (G.2.1 0, 10, .inl (fun _ => 0)))] ++ ([(h0, .inr (2, [.ref q1, .ref q2, .int 0, .int 0]))] ++ R))) H := hP
  have hD : va_D A ([(q2, .inl (G.2.1 0, 3, .inl (fun _ => 0)))] ++ ([(q1, .inl (G.2.1 0, 10, .inl (fun _ => 0)))] ++ ([(h0, .inr (2, [.ref q1, .ref q2, .int 0, .int 0]))] ++ R))) := hD
  obtain ⟨hP, hD⟩ := q_perm ((List.perm_append_comm_assoc _ _ _).trans (((List.perm_append_comm_assoc _ _ _).append_left _).trans (List.perm_append_comm_assoc _ _ _))) hP hD
  have hP : va_P G.1 vwCl ([(h0, .inr (2, [.ref q1, .ref q2, .int 0, .int 0]))] ++ ([(q1, .inl (G.2.1 0, 10, .inl (fun _ => 0)))] ++ ([(q2, .inl (G.2.1 0, 3, .inl (fun _ => 0)))] ++ R))) _ := hP
  have hD : va_D A ([(h0, .inr (2, [.ref q1, .ref q2, .int 0, .int 0]))] ++ ([(q1, .inl (G.2.1 0, 10, .inl (fun _ => 0)))] ++ ([(q2, .inl (G.2.1 0, 3, .inl (fun _ => 0)))] ++ R))) := hD
  exact W.vret hx hb hr (fun t ht hW => q_rv (post := fun (u : Nat → Nat) => u 15 = h0) (W' := fun (u : Nat → Nat) => [((u 15), .inr (2, [.ref (u 10), .ref (u 11), .int 0, .int 0])), ((u 10), .inl (G.2.1 0, 10, .inl (fun _ => 0))), ((u 11), .inl (G.2.1 0, 3, .inl (fun _ => 0)))] ++ R) (u := ((fun n => (if n = 15 then h0 else (if n = 10 then q1 else (if n = 11 then q2 else 0)))) : Nat → Nat)) hAe rfl hP hD hS ht) hS.2.2 dX2_init_19
abbrev rmX3_init : Room := { frames := 1, cells := 4, slots := 32, locals := 12 }
theorem lX3_init_aint : Cond.arrayClass .int ∈ wsX3_init := by decide +kernel
theorem lX3_init_co : Cond.code objectInit ⟨#[0xb1]⟩ 1 none ∈ wsX3_init := by decide +kernel
theorem lX3_init_f15 : Cond.fieldLink RX3 15 "QuarryBlends$Faces" "taken" "[I" ∈ wsX3_init := by decide +kernel
theorem lX3_init_f18 : Cond.fieldLink RX3 18 "QuarryBlends$Faces" "hardness" "[I" ∈ wsX3_init := by decide +kernel
theorem lX3_init_f21 : Cond.fieldLink RX3 21 "QuarryBlends$Faces" "way" "[I" ∈ wsX3_init := by decide +kernel
theorem lX3_init_f9 : Cond.fieldLink RX3 9 "QuarryBlends$Faces" "left" "[I" ∈ wsX3_init := by decide +kernel
theorem lX3_init_io : Cond.instanceMethod objectInit ∈ wsX3_init := by decide +kernel
theorem lX3_init_m3 : Cond.methodLink RX3 3 objectInit ∈ wsX3_init := by decide +kernel
theorem iX3_init_X3 : ∀ w ∈ wsX30, w ∈ wsX3_init := by decide +kernel
set_option maxHeartbeats 4000000 in
set_option maxRecDepth 100000 in
theorem mX3_init (l : Launch) (G : qG) (h0 : Nat) (R : va_W) (sz : Nat) : Met l yX3_init wsX3_init rmX3_init (qPn G [.ref h0] ([(h0, .inr (3, [.null, .null, .null, .null, .int 0]))] ++ R) sz) (qQv G ([(h0, .inr (3, [.null, .null, .null, .null, .int 0]))] ++ R) sz (fun (u : Nat → Nat) => u 13 = h0) (fun (u : Nat → Nat) => [((u 13), .inr (3, [.ref (u 2), .ref (u 3), .ref (u 4), .ref (u 5), .int 0])), ((u 2), .inl (G.2.1 0, 8, .inl (fun _ => 0))), ((u 3), .inl (G.2.1 0, 8, .inl (fun _ => 0))), ((u 4), .inl (G.2.1 0, 8, .inl (fun _ => 0))), ((u 5), .inl (G.2.1 0, 8, .inl (fun _ => 0)))] ++ R)) 4 32 (va_A ([(h0, .inr (3, [.null, .null, .null, .null, .int 0]))] ++ R) sz) := by
  refine Met.ofW (cc := cX3_init) (maxL := 1) (ret := none) (by decide) rfl ?_
  intro p e s m args below meth c s₁ B hml hv
  obtain ⟨rfl, hsz, hP, hD0, hKn0, hEx0⟩ := hv
  have hx := B.exec
  have hb := B.bytes
  have hr := B.returns
  have hts := atoms_spec (ws := wsX3_init) B.pre
  have hown : s.vm.findClass RX3 = some m.cls := findClass_of_methodNamed B.named
  have hlocks := B.notSynchronized
  have hin : meth.name = "<init>" := (name_of_methodNamed B.named B.method).1
  subst hsz
  have hD := hD0.self (sz := s.heap.size)
  generalize hAe : va_A ([(h0, .inr (3, [.null, .null, .null, .null, .int 0]))] ++ R) s.heap.size = A at hD hKn0 hEx0 ⊢
  have hA : ∀ q : Nat, s.heap.size ≤ q → A q := fun q h => by rw [← hAe]; exact Or.inr h
  have hKn : qKn G A s s.heap := hKn0
  have hEx : qEx G A s s.heap := hEx0
  have hS : va_S A s.heap s.heap [] := va_S.rf
  have hl := lv_entry ([.ref h0]) (n := 1) (Nat.le_of_ble_eq_true rfl)
  rw [lg_entry_eq]
  generalize (lg_sl ([.ref h0]) ++ List.replicate (1 - (lg_sl ([.ref h0])).length) Slot.unset).toArray = ls at hl ⊢
  have hl : lv_has ls 1 [(0, .ref h0)] := hl
  show W p l e rmX3_init s m #[.ref h0] below meth c s.heap [] 0 0 _ _
  refine lv_aload_n hx hb dX3_init_0 rfl (lv_at hl 0 rfl) ?_
  refine W.objInit hx hb hown (hts _ lX3_init_m3) (hts _ lX3_init_io) (hts _ lX3_init_co) rfl (by rw [hml]; exact hl.1) rfl dX3_init_1 (Nat.le_of_ble_eq_true rfl) (Nat.le_of_ble_eq_true rfl) ?_
  refine W.eq (g2 := F0 m 4 ls []) rfl ?_
  refine lv_aload_n hx hb dX3_init_4 rfl (lv_at hl 0 rfl) ?_
  refine lv_bipush (v := (8 : Int32)) hx hb dX3_init_5 (by decide) ?_
  refine q_newa (atype := .int) (ty := .int) (N' := 8) (a0 := (8, .inl (fun _ => 0))) hx hb (hts _ lX3_init_aint) rfl hP hD hS hA hKn 0 rfl (fun _ h => h) (fun _ => rfl) (by decide) (by decide) (Nat.le_of_ble_eq_true rfl) (Nat.le_of_ble_eq_true rfl) (Nat.le_of_ble_eq_true rfl) dX3_init_7 (fun q1 H hP hD hS => ?_)
  have hP : va_P G.1 vwCl ([(q1, .inl (G.2.1 0, 8, .inl (fun _ => 0)))] ++ ([(h0, .inr (3, [.null, .null, .null, .null, .int 0]))] ++ R)) H := hP
  have hD : va_D A ([(q1, .inl (G.2.1 0, 8, .inl (fun _ => 0)))] ++ ([(h0, .inr (3, [.null, .null, .null, .null, .int 0]))] ++ R)) := hD
  refine W.widen (k := 1) (n := 8) (Nat.le_of_ble_eq_true rfl) (Nat.le_of_ble_eq_true rfl) ?_
  refine va_putF (D := G.1) (ci := 3) (v := .ref q1) (ty := .array .int) (C := RX3) (T := TX3) (N := 5) hx hb hts iX3_init_X3 tyX3 tyX3_ok nmX3 hown hKn.k hP hD hS 1 rfl rfl 0 (by decide) (hts _ lX3_init_f9) (fun _ h9 => h9) rfl hin rfl (by decide +kernel) rfl rfl (Nat.le_of_ble_eq_true rfl) dX3_init_9 (fun H locs hP hD hS => ?_)
  have hP : va_P G.1 vwCl ([(q1, .inl (G.2.1 0, 8, .inl (fun _ => 0)))] ++ ([(h0, .inr (3, [.ref q1, .null, .null, .null, .int 0]))] ++ R)) H := hP
  have hD : va_D A ([(q1, .inl (G.2.1 0, 8, .inl (fun _ => 0)))] ++ ([(h0, .inr (3, [.ref q1, .null, .null, .null, .int 0]))] ++ R)) := hD
  refine lv_aload_n hx hb dX3_init_12 rfl (lv_at hl 0 rfl) ?_
  refine lv_bipush (v := (8 : Int32)) hx hb dX3_init_13 (by decide) ?_
  refine q_newa (atype := .int) (ty := .int) (N' := 8) (a0 := (8, .inl (fun _ => 0))) hx hb (hts _ lX3_init_aint) rfl hP hD hS hA hKn 0 rfl (fun _ h => h) (fun _ => rfl) (by decide) (by decide) (Nat.le_of_ble_eq_true rfl) (Nat.le_of_ble_eq_true rfl) (Nat.le_of_ble_eq_true rfl) dX3_init_15 (fun q2 H hP hD hS => ?_)
  have hP : va_P G.1 vwCl ([(q2, .inl (G.2.1 0, 8, .inl (fun _ => 0)))] ++ ([(q1, .inl (G.2.1 0, 8, .inl (fun _ => 0)))] ++ ([(h0, .inr (3, [.ref q1, .null, .null, .null, .int 0]))] ++ R))) H := hP
  have hD : va_D A ([(q2, .inl (G.2.1 0, 8, .inl (fun _ => 0)))] ++ ([(q1, .inl (G.2.1 0, 8, .inl (fun _ => 0)))] ++ ([(h0, .inr (3, [.ref q1, .null, .null, .null, .int 0]))] ++ R))) := hD
  refine W.widen (k := 2) (n := 16) (Nat.le_of_ble_eq_true rfl) (Nat.le_of_ble_eq_true rfl) ?_
  refine va_putF (D := G.1) (ci := 3) (v := .ref q2) (ty := .array .int) (C := RX3) (T := TX3) (N := 5) hx hb hts iX3_init_X3 tyX3 tyX3_ok nmX3 hown hKn.k hP hD hS 2 rfl rfl 1 (by decide) (hts _ lX3_init_f15) (fun _ h9 => h9) rfl hin rfl (by decide +kernel) rfl rfl (Nat.le_of_ble_eq_true rfl) dX3_init_17 (fun H locs hP hD hS => ?_)
  have hP : va_P G.1 vwCl ([(q2, .inl (G.2.1 0, 8, .inl (fun _ => 0)))] ++ ([(q1, .inl (G.2.1 0, 8, .inl (fun _ => 0)))] ++ ([(h0, .inr (3, [.ref q1, .ref q2, .null, .null, .int 0]))] ++ R))) H := hP
  have hD : va_D A ([(q2, .inl (G.2.1 0, 8, .inl (fun _ => 0)))] ++ ([(q1, .inl (G.2.1 0, 8, .inl (fun _ => 0)))] ++ ([(h0, .inr (3, [.ref q1, .ref q2, .null, .null, .int 0]))] ++ R))) := hD
  refine lv_aload_n hx hb dX3_init_20 rfl (lv_at hl 0 rfl) ?_
  refine lv_bipush (v := (8 : Int32)) hx hb dX3_init_21 (by decide) ?_
  refine q_newa (atype := .int) (ty := .int) (N' := 8) (a0 := (8, .inl (fun _ => 0))) hx hb (hts _ lX3_init_aint) rfl hP hD hS hA hKn 0 rfl (fun _ h => h) (fun _ => rfl) (by decide) (by decide) (Nat.le_of_ble_eq_true rfl) (Nat.le_of_ble_eq_true rfl) (Nat.le_of_ble_eq_true rfl) dX3_init_23 (fun q3 H hP hD hS => ?_)
  have hP : va_P G.1 vwCl ([(q3, .inl (G.2.1 0, 8, .inl (fun _ => 0)))] ++ ([(q2, .inl (G.2.1 0, 8, .inl (fun _ => 0)))] ++ ([(q1, .inl (G.2.1 0, 8, .inl (fun _ => 0)))] ++ ([(h0, .inr (3, [.ref q1, .ref q2, .null, .null, .int 0]))] ++ R)))) H := hP
  have hD : va_D A ([(q3, .inl (G.2.1 0, 8, .inl (fun _ => 0)))] ++ ([(q2, .inl (G.2.1 0, 8, .inl (fun _ => 0)))] ++ ([(q1, .inl (G.2.1 0, 8, .inl (fun _ => 0)))] ++ ([(h0, .inr (3, [.ref q1, .ref q2, .null, .null, .int 0]))] ++ R)))) := hD
  refine W.widen (k := 3) (n := 24) (Nat.le_of_ble_eq_true rfl) (Nat.le_of_ble_eq_true rfl) ?_
  refine va_putF (D := G.1) (ci := 3) (v := .ref q3) (ty := .array .int) (C := RX3) (T := TX3) (N := 5) hx hb hts iX3_init_X3 tyX3 tyX3_ok nmX3 hown hKn.k hP hD hS 3 rfl rfl 2 (by decide) (hts _ lX3_init_f18) (fun _ h9 => h9) rfl hin rfl (by decide +kernel) rfl rfl (Nat.le_of_ble_eq_true rfl) dX3_init_25 (fun H locs hP hD hS => ?_)
  have hP : va_P G.1 vwCl ([(q3, .inl (G.2.1 0, 8, .inl (fun _ => 0)))] ++ ([(q2, .inl (G.2.1 0, 8, .inl (fun _ => 0)))] ++ ([(q1, .inl (G.2.1 0, 8, .inl (fun _ => 0)))] ++ ([(h0, .inr (3, [.ref q1, .ref q2, .ref q3, .null, .int 0]))] ++ R)))) H := hP
  have hD : va_D A ([(q3, .inl (G.2.1 0, 8, .inl (fun _ => 0)))] ++ ([(q2, .inl (G.2.1 0, 8, .inl (fun _ => 0)))] ++ ([(q1, .inl (G.2.1 0, 8, .inl (fun _ => 0)))] ++ ([(h0, .inr (3, [.ref q1, .ref q2, .ref q3, .null, .int 0]))] ++ R)))) := hD
  refine lv_aload_n hx hb dX3_init_28 rfl (lv_at hl 0 rfl) ?_
  refine lv_bipush (v := (8 : Int32)) hx hb dX3_init_29 (by decide) ?_
  refine q_newa (atype := .int) (ty := .int) (N' := 8) (a0 := (8, .inl (fun _ => 0))) hx hb (hts _ lX3_init_aint) rfl hP hD hS hA hKn 0 rfl (fun _ h => h) (fun _ => rfl) (by decide) (by decide) (Nat.le_of_ble_eq_true rfl) (Nat.le_of_ble_eq_true rfl) (Nat.le_of_ble_eq_true rfl) dX3_init_31 (fun q4 H hP hD hS => ?_)
  have hP : va_P G.1 vwCl ([(q4, .inl (G.2.1 0, 8, .inl (fun _ => 0)))] ++ ([(q3, .inl (G.2.1 0, 8, .inl (fun _ => 0)))] ++ ([(q2, .inl (G.2.1 0, 8, .inl (fun _ => 0)))] ++ ([(q1, .inl (G.2.1 0, 8, .inl (fun _ => 0)))] ++ ([(h0, .inr (3, [.ref q1, .ref q2, .ref q3, .null, .int 0]))] ++ R))))) H := hP
  have hD : va_D A ([(q4, .inl (G.2.1 0, 8, .inl (fun _ => 0)))] ++ ([(q3, .inl (G.2.1 0, 8, .inl (fun _ => 0)))] ++ ([(q2, .inl (G.2.1 0, 8, .inl (fun _ => 0)))] ++ ([(q1, .inl (G.2.1 0, 8, .inl (fun _ => 0)))] ++ ([(h0, .inr (3, [.ref q1, .ref q2, .ref q3, .null, .int 0]))] ++ R))))) := hD
  refine W.widen (k := 4) (n := 32) (Nat.le_of_ble_eq_true rfl) (Nat.le_of_ble_eq_true rfl) ?_
  refine va_putF (D := G.1) (ci := 3) (v := .ref q4) (ty := .array .int) (C := RX3) (T := TX3) (N := 5) hx hb hts iX3_init_X3 tyX3 tyX3_ok nmX3 hown hKn.k hP hD hS 4 rfl rfl 3 (by decide) (hts _ lX3_init_f21) (fun _ h9 => h9) rfl hin rfl (by decide +kernel) rfl rfl (Nat.le_of_ble_eq_true rfl) dX3_init_33 (fun H locs hP hD hS => ?_)
  have hP : va_P G.1 vwCl ([(q4, .inl (G.2.1 0, 8, .inl (fun _ => 0)))] ++ ([(q3, .inl (G.2.1 0, 8, .inl (fun _ => 0)))] ++ ([(q2, .inl (G.2.1 0, 8, .inl (fun _ => 0)))] ++ ([(q1, .inl (G.2.1 0, 8, .inl (fun _ => 0)))] ++ ([(h0, .inr (3, [.ref q1, .ref q2, .ref q3, .ref q4, .int 0]))] ++ R))))) H := hP
  have hD : va_D A ([(q4, .inl (G.2.1 0, 8, .inl (fun _ => 0)))] ++ ([(q3, .inl (G.2.1 0, 8, .inl (fun _ => 0)))] ++ ([(q2, .inl (G.2.1 0, 8, .inl (fun _ => 0)))] ++ ([(q1, .inl (G.2.1 0, 8, .inl (fun _ => 0)))] ++ ([(h0, .inr (3, [.ref q1, .ref q2, .ref q3, .ref q4, .int 0]))] ++ R))))) := hD
  obtain ⟨hP, hD⟩ := q_perm ((((List.perm_append_comm_assoc _ _ _).trans (((List.perm_append_comm_assoc _ _ _).append_left _).trans (List.perm_append_comm_assoc _ _ _))).trans (((((List.perm_append_comm_assoc _ _ _).append_left _).trans (List.perm_append_comm_assoc _ _ _)).append_left _).trans (List.perm_append_comm_assoc _ _ _))).trans (((((((List.perm_append_comm_assoc _ _ _).append_left _).trans (List.perm_append_comm_assoc _ _ _)).append_left _).trans (List.perm_append_comm_assoc _ _ _)).append_left _).trans (List.perm_append_comm_assoc _ _ _))) hP hD
  have hP : va_P G.1 vwCl ([(h0, .inr (3, [.ref q1, .ref q2, .ref q3, .ref q4, .int 0]))] ++ ([(q1, .inl (G.2.1 0, 8, .inl (fun _ => 0)))] ++ ([(q2, .inl (G.2.1 0, 8, .inl (fun _ => 0)))] ++ ([(q3, .inl (G.2.1 0, 8, .inl (fun _ => 0)))] ++ ([(q4, .inl (G.2.1 0, 8, .inl (fun _ => 0)))] ++ R))))) _ := hP
  have hD : va_D A ([(h0, .inr (3, [.ref q1, .ref q2, .ref q3, .ref q4, .int 0]))] ++ ([(q1, .inl (G.2.1 0, 8, .inl (fun _ => 0)))] ++ ([(q2, .inl (G.2.1 0, 8, .inl (fun _ => 0)))] ++ ([(q3, .inl (G.2.1 0, 8, .inl (fun _ => 0)))] ++ ([(q4, .inl (G.2.1 0, 8, .inl (fun _ => 0)))] ++ R))))) := hD
  exact W.vret hx hb hr (fun t ht hW => q_rv (post := fun (u : Nat → Nat) => u 13 = h0) (W' := fun (u : Nat → Nat) => [((u 13), .inr (3, [.ref (u 2), .ref (u 3), .ref (u 4), .ref (u 5), .int 0])), ((u 2), .inl (G.2.1 0, 8, .inl (fun _ => 0))), ((u 3), .inl (G.2.1 0, 8, .inl (fun _ => 0))), ((u 4), .inl (G.2.1 0, 8, .inl (fun _ => 0))), ((u 5), .inl (G.2.1 0, 8, .inl (fun _ => 0)))] ++ R) (u := ((fun n => (if n = 13 then h0 else (if n = 2 then q1 else (if n = 3 then q2 else (if n = 4 then q3 else (if n = 5 then q4 else 0)))))) : Nat → Nat)) hAe rfl hP hD hS ht) hS.2.2 dX3_init_36
abbrev rmX8_init : Room := { frames := 1, cells := 4, slots := 80, locals := 23 }
theorem lX8_init_aint : Cond.arrayClass .int ∈ wsX8_init := by decide +kernel
theorem lX8_init_co : Cond.code objectInit ⟨#[0xb1]⟩ 1 none ∈ wsX8_init := by decide +kernel
theorem lX8_init_f15 : Cond.fieldLink RX8 15 "QuarryBlends$Trucks" "load" "[I" ∈ wsX8_init := by decide +kernel
theorem lX8_init_f18 : Cond.fieldLink RX8 18 "QuarryBlends$Trucks" "back" "[I" ∈ wsX8_init := by decide +kernel
theorem lX8_init_f21 : Cond.fieldLink RX8 21 "QuarryBlends$Trucks" "sent" "[I" ∈ wsX8_init := by decide +kernel
theorem lX8_init_f9 : Cond.fieldLink RX8 9 "QuarryBlends$Trucks" "from" "[I" ∈ wsX8_init := by decide +kernel
theorem lX8_init_io : Cond.instanceMethod objectInit ∈ wsX8_init := by decide +kernel
theorem lX8_init_m3 : Cond.methodLink RX8 3 objectInit ∈ wsX8_init := by decide +kernel
theorem iX8_init_X8 : ∀ w ∈ wsX80, w ∈ wsX8_init := by decide +kernel
set_option maxHeartbeats 4000000 in
set_option maxRecDepth 100000 in
theorem mX8_init (l : Launch) (G : qG) (h0 : Nat) (R : va_W) (sz : Nat) : Met l yX8_init wsX8_init rmX8_init (qPn G [.ref h0] ([(h0, .inr (8, [.null, .null, .null, .null]))] ++ R) sz) (qQv G ([(h0, .inr (8, [.null, .null, .null, .null]))] ++ R) sz (fun (u : Nat → Nat) => u 14 = h0) (fun (u : Nat → Nat) => [((u 14), .inr (8, [.ref (u 6), .ref (u 7), .ref (u 8), .ref (u 9)])), ((u 6), .inl (G.2.1 0, 20, .inl (fun j => if j < 20 then (-6 : Int32) else 0))), ((u 7), .inl (G.2.1 0, 20, .inl (fun _ => 0))), ((u 8), .inl (G.2.1 0, 20, .inl (fun _ => 0))), ((u 9), .inl (G.2.1 0, 20, .inl (fun _ => 0)))] ++ R)) 4 80 (va_A ([(h0, .inr (8, [.null, .null, .null, .null]))] ++ R) sz) := by
  refine Met.ofW (cc := cX8_init) (maxL := 1) (ret := none) (by decide) rfl ?_
  intro p e s m args below meth c s₁ B hml hv
  obtain ⟨rfl, hsz, hP, hD0, hKn0, hEx0⟩ := hv
  have hx := B.exec
  have hb := B.bytes
  have hr := B.returns
  have hts := atoms_spec (ws := wsX8_init) B.pre
  have hown : s.vm.findClass RX8 = some m.cls := findClass_of_methodNamed B.named
  have hlocks := B.notSynchronized
  have hin : meth.name = "<init>" := (name_of_methodNamed B.named B.method).1
  subst hsz
  have hD := hD0.self (sz := s.heap.size)
  generalize hAe : va_A ([(h0, .inr (8, [.null, .null, .null, .null]))] ++ R) s.heap.size = A at hD hKn0 hEx0 ⊢
  have hA : ∀ q : Nat, s.heap.size ≤ q → A q := fun q h => by rw [← hAe]; exact Or.inr h
  have hKn : qKn G A s s.heap := hKn0
  have hEx : qEx G A s s.heap := hEx0
  have hS : va_S A s.heap s.heap [] := va_S.rf
  have hl := lv_entry ([.ref h0]) (n := 1) (Nat.le_of_ble_eq_true rfl)
  rw [lg_entry_eq]
  generalize (lg_sl ([.ref h0]) ++ List.replicate (1 - (lg_sl ([.ref h0])).length) Slot.unset).toArray = ls at hl ⊢
  have hl : lv_has ls 1 [(0, .ref h0)] := hl
  show W p l e rmX8_init s m #[.ref h0] below meth c s.heap [] 0 0 _ _
  refine lv_aload_n hx hb dX8_init_0 rfl (lv_at hl 0 rfl) ?_
  refine W.objInit hx hb hown (hts _ lX8_init_m3) (hts _ lX8_init_io) (hts _ lX8_init_co) rfl (by rw [hml]; exact hl.1) rfl dX8_init_1 (Nat.le_of_ble_eq_true rfl) (Nat.le_of_ble_eq_true rfl) ?_
  refine W.eq (g2 := F0 m 4 ls []) rfl ?_
  refine lv_aload_n hx hb dX8_init_4 rfl (lv_at hl 0 rfl) ?_
  refine lv_bipush (v := (20 : Int32)) hx hb dX8_init_5 (by decide) ?_
  refine q_newa (atype := .int) (ty := .int) (N' := 20) (a0 := (20, .inl (fun _ => 0))) hx hb (hts _ lX8_init_aint) rfl hP hD hS hA hKn 0 rfl (fun _ h => h) (fun _ => rfl) (by decide) (by decide) (Nat.le_of_ble_eq_true rfl) (Nat.le_of_ble_eq_true rfl) (Nat.le_of_ble_eq_true rfl) dX8_init_7 (fun q1 H hP hD hS => ?_)
  have hP : va_P G.1 vwCl ([(q1, .inl (G.2.1 0, 20, .inl (fun _ => 0)))] ++ ([(h0, .inr (8, [.null, .null, .null, .null]))] ++ R)) H := hP
  have hD : va_D A ([(q1, .inl (G.2.1 0, 20, .inl (fun _ => 0)))] ++ ([(h0, .inr (8, [.null, .null, .null, .null]))] ++ R)) := hD
  refine W.widen (k := 1) (n := 20) (Nat.le_of_ble_eq_true rfl) (Nat.le_of_ble_eq_true rfl) ?_
  refine va_putF (D := G.1) (ci := 8) (v := .ref q1) (ty := .array .int) (C := RX8) (T := TX8) (N := 4) hx hb hts iX8_init_X8 tyX8 tyX8_ok nmX8 hown hKn.k hP hD hS 1 rfl rfl 0 (by decide) (hts _ lX8_init_f9) (fun _ h9 => h9) rfl hin rfl (by decide +kernel) rfl rfl (Nat.le_of_ble_eq_true rfl) dX8_init_9 (fun H locs hP hD hS => ?_)
  have hP : va_P G.1 vwCl ([(q1, .inl (G.2.1 0, 20, .inl (fun _ => 0)))] ++ ([(h0, .inr (8, [.ref q1, .null, .null, .null]))] ++ R)) H := hP
  have hD : va_D A ([(q1, .inl (G.2.1 0, 20, .inl (fun _ => 0)))] ++ ([(h0, .inr (8, [.ref q1, .null, .null, .null]))] ++ R)) := hD
  refine lv_aload_n hx hb dX8_init_12 rfl (lv_at hl 0 rfl) ?_
  refine lv_bipush (v := (20 : Int32)) hx hb dX8_init_13 (by decide) ?_
  refine q_newa (atype := .int) (ty := .int) (N' := 20) (a0 := (20, .inl (fun _ => 0))) hx hb (hts _ lX8_init_aint) rfl hP hD hS hA hKn 0 rfl (fun _ h => h) (fun _ => rfl) (by decide) (by decide) (Nat.le_of_ble_eq_true rfl) (Nat.le_of_ble_eq_true rfl) (Nat.le_of_ble_eq_true rfl) dX8_init_15 (fun q2 H hP hD hS => ?_)
  have hP : va_P G.1 vwCl ([(q2, .inl (G.2.1 0, 20, .inl (fun _ => 0)))] ++ ([(q1, .inl (G.2.1 0, 20, .inl (fun _ => 0)))] ++ ([(h0, .inr (8, [.ref q1, .null, .null, .null]))] ++ R))) H := hP
  have hD : va_D A ([(q2, .inl (G.2.1 0, 20, .inl (fun _ => 0)))] ++ ([(q1, .inl (G.2.1 0, 20, .inl (fun _ => 0)))] ++ ([(h0, .inr (8, [.ref q1, .null, .null, .null]))] ++ R))) := hD
  refine W.widen (k := 2) (n := 40) (Nat.le_of_ble_eq_true rfl) (Nat.le_of_ble_eq_true rfl) ?_
  refine va_putF (D := G.1) (ci := 8) (v := .ref q2) (ty := .array .int) (C := RX8) (T := TX8) (N := 4) hx hb hts iX8_init_X8 tyX8 tyX8_ok nmX8 hown hKn.k hP hD hS 2 rfl rfl 1 (by decide) (hts _ lX8_init_f15) (fun _ h9 => h9) rfl hin rfl (by decide +kernel) rfl rfl (Nat.le_of_ble_eq_true rfl) dX8_init_17 (fun H locs hP hD hS => ?_)
  have hP : va_P G.1 vwCl ([(q2, .inl (G.2.1 0, 20, .inl (fun _ => 0)))] ++ ([(q1, .inl (G.2.1 0, 20, .inl (fun _ => 0)))] ++ ([(h0, .inr (8, [.ref q1, .ref q2, .null, .null]))] ++ R))) H := hP
  have hD : va_D A ([(q2, .inl (G.2.1 0, 20, .inl (fun _ => 0)))] ++ ([(q1, .inl (G.2.1 0, 20, .inl (fun _ => 0)))] ++ ([(h0, .inr (8, [.ref q1, .ref q2, .null, .null]))] ++ R))) := hD
  refine lv_aload_n hx hb dX8_init_20 rfl (lv_at hl 0 rfl) ?_
  refine lv_bipush (v := (20 : Int32)) hx hb dX8_init_21 (by decide) ?_
  refine q_newa (atype := .int) (ty := .int) (N' := 20) (a0 := (20, .inl (fun _ => 0))) hx hb (hts _ lX8_init_aint) rfl hP hD hS hA hKn 0 rfl (fun _ h => h) (fun _ => rfl) (by decide) (by decide) (Nat.le_of_ble_eq_true rfl) (Nat.le_of_ble_eq_true rfl) (Nat.le_of_ble_eq_true rfl) dX8_init_23 (fun q3 H hP hD hS => ?_)
  have hP : va_P G.1 vwCl ([(q3, .inl (G.2.1 0, 20, .inl (fun _ => 0)))] ++ ([(q2, .inl (G.2.1 0, 20, .inl (fun _ => 0)))] ++ ([(q1, .inl (G.2.1 0, 20, .inl (fun _ => 0)))] ++ ([(h0, .inr (8, [.ref q1, .ref q2, .null, .null]))] ++ R)))) H := hP
  have hD : va_D A ([(q3, .inl (G.2.1 0, 20, .inl (fun _ => 0)))] ++ ([(q2, .inl (G.2.1 0, 20, .inl (fun _ => 0)))] ++ ([(q1, .inl (G.2.1 0, 20, .inl (fun _ => 0)))] ++ ([(h0, .inr (8, [.ref q1, .ref q2, .null, .null]))] ++ R)))) := hD
  refine W.widen (k := 3) (n := 60) (Nat.le_of_ble_eq_true rfl) (Nat.le_of_ble_eq_true rfl) ?_
  refine va_putF (D := G.1) (ci := 8) (v := .ref q3) (ty := .array .int) (C := RX8) (T := TX8) (N := 4) hx hb hts iX8_init_X8 tyX8 tyX8_ok nmX8 hown hKn.k hP hD hS 3 rfl rfl 2 (by decide) (hts _ lX8_init_f18) (fun _ h9 => h9) rfl hin rfl (by decide +kernel) rfl rfl (Nat.le_of_ble_eq_true rfl) dX8_init_25 (fun H locs hP hD hS => ?_)
  have hP : va_P G.1 vwCl ([(q3, .inl (G.2.1 0, 20, .inl (fun _ => 0)))] ++ ([(q2, .inl (G.2.1 0, 20, .inl (fun _ => 0)))] ++ ([(q1, .inl (G.2.1 0, 20, .inl (fun _ => 0)))] ++ ([(h0, .inr (8, [.ref q1, .ref q2, .ref q3, .null]))] ++ R)))) H := hP
  have hD : va_D A ([(q3, .inl (G.2.1 0, 20, .inl (fun _ => 0)))] ++ ([(q2, .inl (G.2.1 0, 20, .inl (fun _ => 0)))] ++ ([(q1, .inl (G.2.1 0, 20, .inl (fun _ => 0)))] ++ ([(h0, .inr (8, [.ref q1, .ref q2, .ref q3, .null]))] ++ R)))) := hD
  refine lv_aload_n hx hb dX8_init_28 rfl (lv_at hl 0 rfl) ?_
  refine lv_bipush (v := (20 : Int32)) hx hb dX8_init_29 (by decide) ?_
  refine q_newa (atype := .int) (ty := .int) (N' := 20) (a0 := (20, .inl (fun _ => 0))) hx hb (hts _ lX8_init_aint) rfl hP hD hS hA hKn 0 rfl (fun _ h => h) (fun _ => rfl) (by decide) (by decide) (Nat.le_of_ble_eq_true rfl) (Nat.le_of_ble_eq_true rfl) (Nat.le_of_ble_eq_true rfl) dX8_init_31 (fun q4 H hP hD hS => ?_)
  have hP : va_P G.1 vwCl ([(q4, .inl (G.2.1 0, 20, .inl (fun _ => 0)))] ++ ([(q3, .inl (G.2.1 0, 20, .inl (fun _ => 0)))] ++ ([(q2, .inl (G.2.1 0, 20, .inl (fun _ => 0)))] ++ ([(q1, .inl (G.2.1 0, 20, .inl (fun _ => 0)))] ++ ([(h0, .inr (8, [.ref q1, .ref q2, .ref q3, .null]))] ++ R))))) H := hP
  have hD : va_D A ([(q4, .inl (G.2.1 0, 20, .inl (fun _ => 0)))] ++ ([(q3, .inl (G.2.1 0, 20, .inl (fun _ => 0)))] ++ ([(q2, .inl (G.2.1 0, 20, .inl (fun _ => 0)))] ++ ([(q1, .inl (G.2.1 0, 20, .inl (fun _ => 0)))] ++ ([(h0, .inr (8, [.ref q1, .ref q2, .ref q3, .null]))] ++ R))))) := hD
  refine W.widen (k := 4) (n := 80) (Nat.le_of_ble_eq_true rfl) (Nat.le_of_ble_eq_true rfl) ?_
  refine va_putF (D := G.1) (ci := 8) (v := .ref q4) (ty := .array .int) (C := RX8) (T := TX8) (N := 4) hx hb hts iX8_init_X8 tyX8 tyX8_ok nmX8 hown hKn.k hP hD hS 4 rfl rfl 3 (by decide) (hts _ lX8_init_f21) (fun _ h9 => h9) rfl hin rfl (by decide +kernel) rfl rfl (Nat.le_of_ble_eq_true rfl) dX8_init_33 (fun H locs hP hD hS => ?_)
  have hP : va_P G.1 vwCl ([(q4, .inl (G.2.1 0, 20, .inl (fun _ => 0)))] ++ ([(q3, .inl (G.2.1 0, 20, .inl (fun _ => 0)))] ++ ([(q2, .inl (G.2.1 0, 20, .inl (fun _ => 0)))] ++ ([(q1, .inl (G.2.1 0, 20, .inl (fun _ => 0)))] ++ ([(h0, .inr (8, [.ref q1, .ref q2, .ref q3, .ref q4]))] ++ R))))) H := hP
  have hD : va_D A ([(q4, .inl (G.2.1 0, 20, .inl (fun _ => 0)))] ++ ([(q3, .inl (G.2.1 0, 20, .inl (fun _ => 0)))] ++ ([(q2, .inl (G.2.1 0, 20, .inl (fun _ => 0)))] ++ ([(q1, .inl (G.2.1 0, 20, .inl (fun _ => 0)))] ++ ([(h0, .inr (8, [.ref q1, .ref q2, .ref q3, .ref q4]))] ++ R))))) := hD
  refine lv_aload_n hx hb dX8_init_36 rfl (lv_at hl 0 rfl) ?_
  refine va_get (D := G.1) (ci := 8) (v := .ref q1) (C := RX8) (T := TX8) (N := 4) hx hb hts iX8_init_X8 hown hKn.k hP 4 rfl rfl 0 (by decide) (hts _ lX8_init_f9) (fun _ h9 => h9) rfl dX8_init_37 ?_
  refine lv_bipush (v := (-6 : Int32)) hx hb dX8_init_40 (by decide) ?_
  refine qc_sv (As := [.ref q1, .int (-6 : Int32)]) (rest := []) ⟨hx, hb, hml, hown, hts⟩ (m_fill l G ([(q4, .inl (G.2.1 0, 20, .inl (fun _ => 0)))] ++ ([(q3, .inl (G.2.1 0, 20, .inl (fun _ => 0)))] ++ ([(q2, .inl (G.2.1 0, 20, .inl (fun _ => 0)))] ++ ([(q1, .inl (G.2.1 0, 20, .inl (fun _ => 0)))] ++ ([(h0, .inr (8, [.ref q1, .ref q2, .ref q3, .ref q4]))] ++ R))))) 3 20 _ (-6 : Int32) (by decide) rfl) (va_cwS 2 hts gX8_init_J7_fill_53178 rfl rfl rfl (by decide +kernel) ⟨Nat.le_of_ble_eq_true rfl, Nat.le_of_ble_eq_true rfl⟩) hP hD hS hA hKn trivial rfl hl.1 rfl (Nat.le_of_ble_eq_true rfl) dX8_init_42 ⟨Nat.le_of_ble_eq_true rfl, Nat.le_of_ble_eq_true rfl⟩ (fun _ H locs _ hP hD hS => ?_)
  have hP : va_P G.1 vwCl ([(q4, .inl (G.2.1 0, 20, .inl (fun _ => 0)))] ++ ([(q3, .inl (G.2.1 0, 20, .inl (fun _ => 0)))] ++ ([(q2, .inl (G.2.1 0, 20, .inl (fun _ => 0)))] ++ ([(q1, .inl (G.2.1 0, 20, .inl (fun j => if j < 20 then (-6 : Int32) else 0)))] ++ ([(h0, .inr (8, [.ref q1, .ref q2, .ref q3, .ref q4]))] ++ R))))) H := hP
  have hD : va_D A ([(q4, .inl (G.2.1 0, 20, .inl (fun _ => 0)))] ++ ([(q3, .inl (G.2.1 0, 20, .inl (fun _ => 0)))] ++ ([(q2, .inl (G.2.1 0, 20, .inl (fun _ => 0)))] ++ ([(q1, .inl (G.2.1 0, 20, .inl (fun j => if j < 20 then (-6 : Int32) else 0)))] ++ ([(h0, .inr (8, [.ref q1, .ref q2, .ref q3, .ref q4]))] ++ R))))) := hD
  obtain ⟨hP, hD⟩ := q_perm ((((List.perm_append_comm_assoc _ _ _).trans (((List.perm_append_comm_assoc _ _ _).append_left _).trans (List.perm_append_comm_assoc _ _ _))).trans (((((List.perm_append_comm_assoc _ _ _).append_left _).trans (List.perm_append_comm_assoc _ _ _)).append_left _).trans (List.perm_append_comm_assoc _ _ _))).trans (((((((List.perm_append_comm_assoc _ _ _).append_left _).trans (List.perm_append_comm_assoc _ _ _)).append_left _).trans (List.perm_append_comm_assoc _ _ _)).append_left _).trans (List.perm_append_comm_assoc _ _ _))) hP hD
  have hP : va_P G.1 vwCl ([(h0, .inr (8, [.ref q1, .ref q2, .ref q3, .ref q4]))] ++ ([(q1, .inl (G.2.1 0, 20, .inl (fun j => if j < 20 then (-6 : Int32) else 0)))] ++ ([(q2, .inl (G.2.1 0, 20, .inl (fun _ => 0)))] ++ ([(q3, .inl (G.2.1 0, 20, .inl (fun _ => 0)))] ++ ([(q4, .inl (G.2.1 0, 20, .inl (fun _ => 0)))] ++ R))))) _ := hP
  have hD : va_D A ([(h0, .inr (8, [.ref q1, .ref q2, .ref q3, .ref q4]))] ++ ([(q1, .inl (G.2.1 0, 20, .inl (fun j => if j < 20 then (-6 : Int32) else 0)))] ++ ([(q2, .inl (G.2.1 0, 20, .inl (fun _ => 0)))] ++ ([(q3, .inl (G.2.1 0, 20, .inl (fun _ => 0)))] ++ ([(q4, .inl (G.2.1 0, 20, .inl (fun _ => 0)))] ++ R))))) := hD
  exact W.vret hx hb hr (fun t ht hW => q_rv (post := fun (u : Nat → Nat) => u 14 = h0) (W' := fun (u : Nat → Nat) => [((u 14), .inr (8, [.ref (u 6), .ref (u 7), .ref (u 8), .ref (u 9)])), ((u 6), .inl (G.2.1 0, 20, .inl (fun j => if j < 20 then (-6 : Int32) else 0))), ((u 7), .inl (G.2.1 0, 20, .inl (fun _ => 0))), ((u 8), .inl (G.2.1 0, 20, .inl (fun _ => 0))), ((u 9), .inl (G.2.1 0, 20, .inl (fun _ => 0)))] ++ R) (u := ((fun n => (if n = 14 then h0 else (if n = 6 then q1 else (if n = 7 then q2 else (if n = 8 then q3 else (if n = 9 then q4 else 0)))))) : Nat → Nat)) hAe rfl hP hD hS ht) hS.2.2 dX8_init_45
abbrev rmX6_init : Room := { frames := 2, cells := 17, slots := 226, locals := 43 }
theorem lX6_init_c14 : Cond.classLink RX6 14 "[I" ∈ wsX6_init := by decide +kernel
theorem lX6_init_c23 : Cond.classLink RX6 23 RX3 ∈ wsX6_init := by decide +kernel
theorem lX6_init_c30 : Cond.classLink RX6 30 RX8 ∈ wsX6_init := by decide +kernel
theorem lX6_init_c37 : Cond.classLink RX6 37 RX2 ∈ wsX6_init := by decide +kernel
theorem lX6_init_c44 : Cond.classLink RX6 44 RX1 ∈ wsX6_init := by decide +kernel
theorem lX6_init_c51 : Cond.classLink RX6 51 RX0 ∈ wsX6_init := by decide +kernel
theorem lX6_init_co : Cond.code objectInit ⟨#[0xb1]⟩ 1 none ∈ wsX6_init := by decide +kernel
theorem lX6_init_f18 : Cond.fieldLink RX6 18 "QuarryBlends$Quarry" "settings" "[I" ∈ wsX6_init := by decide +kernel
theorem lX6_init_f26 : Cond.fieldLink RX6 26 "QuarryBlends$Quarry" "faces" "LQuarryBlends$Faces;" ∈ wsX6_init := by decide +kernel
theorem lX6_init_f33 : Cond.fieldLink RX6 33 "QuarryBlends$Quarry" "trucks" "LQuarryBlends$Trucks;" ∈ wsX6_init := by decide +kernel
theorem lX6_init_f40 : Cond.fieldLink RX6 40 "QuarryBlends$Quarry" "crusher" "LQuarryBlends$Crusher;" ∈ wsX6_init := by decide +kernel
theorem lX6_init_f47 : Cond.fieldLink RX6 47 "QuarryBlends$Quarry" "contracts" "LQuarryBlends$Contracts;" ∈ wsX6_init := by decide +kernel
theorem lX6_init_f54 : Cond.fieldLink RX6 54 "QuarryBlends$Quarry" "blend" "LQuarryBlends$Blend;" ∈ wsX6_init := by decide +kernel
theorem lX6_init_iX0 : Cond.instantiable RX0 8 ∈ wsX6_init := by decide +kernel
theorem lX6_init_iX1 : Cond.instantiable RX1 2 ∈ wsX6_init := by decide +kernel
theorem lX6_init_iX2 : Cond.instantiable RX2 4 ∈ wsX6_init := by decide +kernel
theorem lX6_init_iX3 : Cond.instantiable RX3 5 ∈ wsX6_init := by decide +kernel
theorem lX6_init_iX8 : Cond.instantiable RX8 4 ∈ wsX6_init := by decide +kernel
theorem lX6_init_im : Cond.instanceMethod ⟨"java/lang/Object", "clone", "()Ljava/lang/Object;"⟩ ∈ wsX6_init := by decide +kernel
theorem lX6_init_io : Cond.instanceMethod objectInit ∈ wsX6_init := by decide +kernel
theorem lX6_init_m13 : Cond.methodLink RX6 13 ⟨"[I", "clone", "()Ljava/lang/Object;"⟩ ∈ wsX6_init := by decide +kernel
theorem lX6_init_m3 : Cond.methodLink RX6 3 objectInit ∈ wsX6_init := by decide +kernel
theorem lX6_init_m32 : Cond.methodLink RX6 32 yX8_init ∈ wsX6_init := by decide +kernel
theorem lX6_init_nX0 : Cond.initialized RX0 ∈ wsX6_init := by decide +kernel
theorem lX6_init_nX1 : Cond.initialized RX1 ∈ wsX6_init := by decide +kernel
theorem lX6_init_nX2 : Cond.initialized RX2 ∈ wsX6_init := by decide +kernel
theorem lX6_init_nX3 : Cond.initialized RX3 ∈ wsX6_init := by decide +kernel
theorem lX6_init_nX8 : Cond.initialized RX8 ∈ wsX6_init := by decide +kernel
theorem lX6_init_na : Cond.native ⟨"java/lang/Object", "clone", "()Ljava/lang/Object;"⟩ ∈ wsX6_init := by decide +kernel
theorem lX6_init_se : Cond.selects "[I" ⟨"[I", "clone", "()Ljava/lang/Object;"⟩ ⟨"java/lang/Object", "clone", "()Ljava/lang/Object;"⟩ ∈ wsX6_init := by decide +kernel
theorem lX6_init_sm : Cond.sameMethod "[I" "java/lang/Object" "clone" "()Ljava/lang/Object;" ∈ wsX6_init := by decide +kernel
theorem lX6_init_yX0_init : Cond.instanceMethod yX0_init ∈ wsX6_init := by decide +kernel
theorem lX6_init_yX1_init : Cond.instanceMethod yX1_init ∈ wsX6_init := by decide +kernel
theorem lX6_init_yX2_init : Cond.instanceMethod yX2_init ∈ wsX6_init := by decide +kernel
theorem lX6_init_yX3_init : Cond.instanceMethod yX3_init ∈ wsX6_init := by decide +kernel
theorem lX6_init_yX8_init : Cond.instanceMethod yX8_init ∈ wsX6_init := by decide +kernel
theorem iX6_init_X0 : ∀ w ∈ wsX00, w ∈ wsX6_init := by decide +kernel
theorem iX6_init_X1 : ∀ w ∈ wsX10, w ∈ wsX6_init := by decide +kernel
theorem iX6_init_X2 : ∀ w ∈ wsX20, w ∈ wsX6_init := by decide +kernel
theorem iX6_init_X3 : ∀ w ∈ wsX30, w ∈ wsX6_init := by decide +kernel
theorem iX6_init_X6 : ∀ w ∈ wsX60, w ∈ wsX6_init := by decide +kernel
theorem iX6_init_X8 : ∀ w ∈ wsX80, w ∈ wsX6_init := by decide +kernel
set_option maxHeartbeats 4000000 in
set_option maxRecDepth 100000 in
theorem mX6_init (l : Launch) (G : qG) (h0 : Nat) (R : va_W) (sz : Nat) : Met l yX6_init wsX6_init rmX6_init (qPn G [.ref h0] ([(h0, .inr (6, [.null, .null, .null, .null, .null, .null, .int 0, .int 0, .int 0, .int 0]))] ++ R) sz) (qQv G ([(h0, .inr (6, [.null, .null, .null, .null, .null, .null, .int 0, .int 0, .int 0, .int 0]))] ++ R) sz (fun (u : Nat → Nat) => u 0 = h0) (fun (u : Nat → Nat) => wQ G u qI ++ R)) 17 226 (va_A ([(h0, .inr (6, [.null, .null, .null, .null, .null, .null, .int 0, .int 0, .int 0, .int 0]))] ++ R) sz) := by
  refine Met.ofW (cc := cX6_init) (maxL := 1) (ret := none) (by decide) rfl ?_
  intro p e s m args below meth c s₁ B hml hv
  obtain ⟨rfl, hsz, hP, hD0, hKn0, hEx0⟩ := hv
  have hx := B.exec
  have hb := B.bytes
  have hr := B.returns
  have hts := atoms_spec (ws := wsX6_init) B.pre
  have hown : s.vm.findClass RX6 = some m.cls := findClass_of_methodNamed B.named
  have hlocks := B.notSynchronized
  have hin : meth.name = "<init>" := (name_of_methodNamed B.named B.method).1
  subst hsz
  have hD := hD0.self (sz := s.heap.size)
  generalize hAe : va_A ([(h0, .inr (6, [.null, .null, .null, .null, .null, .null, .int 0, .int 0, .int 0, .int 0]))] ++ R) s.heap.size = A at hD hKn0 hEx0 ⊢
  have hA : ∀ q : Nat, s.heap.size ≤ q → A q := fun q h => by rw [← hAe]; exact Or.inr h
  have hKn : qKn G A s s.heap := hKn0
  have hEx : qEx G A s s.heap := hEx0
  have hS : va_S A s.heap s.heap [] := va_S.rf
  have hl := lv_entry ([.ref h0]) (n := 1) (Nat.le_of_ble_eq_true rfl)
  rw [lg_entry_eq]
  generalize (lg_sl ([.ref h0]) ++ List.replicate (1 - (lg_sl ([.ref h0])).length) Slot.unset).toArray = ls at hl ⊢
  have hl : lv_has ls 1 [(0, .ref h0)] := hl
  show W p l e rmX6_init s m #[.ref h0] below meth c s.heap [] 0 0 _ _
  refine lv_aload_n hx hb dX6_init_0 rfl (lv_at hl 0 rfl) ?_
  refine W.objInit hx hb hown (hts _ lX6_init_m3) (hts _ lX6_init_io) (hts _ lX6_init_co) rfl (by rw [hml]; exact hl.1) rfl dX6_init_1 (Nat.le_of_ble_eq_true rfl) (Nat.le_of_ble_eq_true rfl) ?_
  refine W.eq (g2 := F0 m 4 ls []) rfl ?_
  refine lv_aload_n hx hb dX6_init_4 rfl (lv_at hl 0 rfl) ?_
  refine va_getsN (ref := "QuarryBlends") (host := "QuarryBlends") hx hb (hKn.2.2.1 _ (List.mem_of_getElem? (i := 0) rfl)) hS hown (va_Nw.use rfl (hKn.2.2.2.2.2.2.2 _ (List.mem_of_getElem? (i := 0) rfl))) (fun _ h9 => h9) dX6_init_5 ?_
  refine q_clone hx hb (hml.trans hl.1.symm) hown (hts _ lX6_init_m13) (hts _ lX6_init_sm) (hts _ lX6_init_na) (hts _ lX6_init_im) (hts _ lX6_init_se) hP hD hS hA hKn hEx (Nat.le_of_ble_eq_true rfl) (Nat.le_of_ble_eq_true rfl) (Nat.le_of_ble_eq_true rfl) (Nat.le_of_ble_eq_true rfl) dX6_init_8 (fun q1 H hP hD hS => ?_)
  have hP : va_P G.1 vwCl ([(q1, .inl (G.2.1 0, 6, .inl (qFs)))] ++ ([(h0, .inr (6, [.null, .null, .null, .null, .null, .null, .int 0, .int 0, .int 0, .int 0]))] ++ R)) H := hP
  have hD : va_D A ([(q1, .inl (G.2.1 0, 6, .inl (qFs)))] ++ ([(h0, .inr (6, [.null, .null, .null, .null, .null, .null, .int 0, .int 0, .int 0, .int 0]))] ++ R)) := hD
  refine W.widen (k := 1) (n := 6) (Nat.le_of_ble_eq_true rfl) (Nat.le_of_ble_eq_true rfl) ?_
  refine va_castA hx hb hown (hts _ lX6_init_c14) hP 0 rfl ((hKn.k.2 0 _ rfl).2) dX6_init_11 ?_
  refine va_putF (D := G.1) (ci := 6) (v := .ref q1) (ty := .array .int) (C := RX6) (T := TX6) (N := 10) hx hb hts iX6_init_X6 tyX6 tyX6_ok nmX6 hown hKn.k hP hD hS 1 rfl rfl 0 (by decide) (hts _ lX6_init_f18) (fun _ h9 => h9) rfl hin rfl (by decide +kernel) rfl rfl (Nat.le_of_ble_eq_true rfl) dX6_init_14 (fun H locs hP hD hS => ?_)
  have hP : va_P G.1 vwCl ([(q1, .inl (G.2.1 0, 6, .inl (qFs)))] ++ ([(h0, .inr (6, [.ref q1, .null, .null, .null, .null, .null, .int 0, .int 0, .int 0, .int 0]))] ++ R)) H := hP
  have hD : va_D A ([(q1, .inl (G.2.1 0, 6, .inl (qFs)))] ++ ([(h0, .inr (6, [.ref q1, .null, .null, .null, .null, .null, .int 0, .int 0, .int 0, .int 0]))] ++ R)) := hD
  refine lv_aload_n hx hb dX6_init_17 rfl (lv_at hl 0 rfl) ?_
  refine q_new (ci := 3) (fs := [.null, .null, .null, .null, .int 0]) (C := RX3) (T := TX3) (N := 5) hx hb hts iX6_init_X3 tyX3 tyX3_ok hown (hts _ lX6_init_c23) (hts _ lX6_init_iX3) (hts _ lX6_init_nX3) hP hD hS hA hKn rfl (by intro j hj; rcases (show j = 0 ∨ j = 1 ∨ j = 2 ∨ j = 3 ∨ j = 4 by omega) with rfl | rfl | rfl | rfl | rfl <;> rfl) (Nat.le_of_ble_eq_true rfl) (Nat.le_of_ble_eq_true rfl) dX6_init_18 (fun q2 H hP hD hS => ?_)
  have hP : va_P G.1 vwCl ([(q2, .inr (3, [.null, .null, .null, .null, .int 0]))] ++ ([(q1, .inl (G.2.1 0, 6, .inl (qFs)))] ++ ([(h0, .inr (6, [.ref q1, .null, .null, .null, .null, .null, .int 0, .int 0, .int 0, .int 0]))] ++ R))) H := hP
  have hD : va_D A ([(q2, .inr (3, [.null, .null, .null, .null, .int 0]))] ++ ([(q1, .inl (G.2.1 0, 6, .inl (qFs)))] ++ ([(h0, .inr (6, [.ref q1, .null, .null, .null, .null, .null, .int 0, .int 0, .int 0, .int 0]))] ++ R))) := hD
  refine W.widen (k := 2) (n := 11) (Nat.le_of_ble_eq_true rfl) (Nat.le_of_ble_eq_true rfl) ?_
  refine lv_dup hx hb dX6_init_21 rfl ?_
  refine qc_IN (As := []) (rest := [.ref q2, .ref h0]) ⟨hx, hb, hml, hown, hts⟩ (mX3_init l G q2 ([(q1, .inl (G.2.1 0, 6, .inl (qFs)))] ++ ([(h0, .inr (6, [.ref q1, .null, .null, .null, .null, .null, .int 0, .int 0, .int 0, .int 0]))] ++ R)) _) ⟨va_cnB 0 hts gX6_init_X3_init_n25 rfl rfl rfl (hKn.2.1 _ (List.mem_of_getElem? (i := 1) rfl)) (hts _ lX6_init_nX3) (by decide +kernel) ⟨Nat.le_of_ble_eq_true rfl, Nat.le_of_ble_eq_true rfl⟩, rfl, (hts _ lX6_init_yX3_init)⟩ hP hD hS hA hKn hEx rfl hl.1 rfl (Nat.le_of_ble_eq_true rfl) dX6_init_22 ⟨Nat.le_of_ble_eq_true rfl, Nat.le_of_ble_eq_true rfl⟩ (fun u3 H locs hu hP hD hS => ?_)
  have hu : u3 13 = q2 := hu
  rw [← hu]
  have hP : va_P G.1 vwCl ([((u3 13), .inr (3, [.ref (u3 2), .ref (u3 3), .ref (u3 4), .ref (u3 5), .int 0])), ((u3 2), .inl (G.2.1 0, 8, .inl (fun _ => 0))), ((u3 3), .inl (G.2.1 0, 8, .inl (fun _ => 0))), ((u3 4), .inl (G.2.1 0, 8, .inl (fun _ => 0))), ((u3 5), .inl (G.2.1 0, 8, .inl (fun _ => 0)))] ++ ([(q1, .inl (G.2.1 0, 6, .inl (qFs)))] ++ ([(h0, .inr (6, [.ref q1, .null, .null, .null, .null, .null, .int 0, .int 0, .int 0, .int 0]))] ++ R))) H := hP
  have hD : va_D A ([((u3 13), .inr (3, [.ref (u3 2), .ref (u3 3), .ref (u3 4), .ref (u3 5), .int 0])), ((u3 2), .inl (G.2.1 0, 8, .inl (fun _ => 0))), ((u3 3), .inl (G.2.1 0, 8, .inl (fun _ => 0))), ((u3 4), .inl (G.2.1 0, 8, .inl (fun _ => 0))), ((u3 5), .inl (G.2.1 0, 8, .inl (fun _ => 0)))] ++ ([(q1, .inl (G.2.1 0, 6, .inl (qFs)))] ++ ([(h0, .inr (6, [.ref q1, .null, .null, .null, .null, .null, .int 0, .int 0, .int 0, .int 0]))] ++ R))) := hD
  refine W.widen (k := 6) (n := 43) (Nat.le_of_ble_eq_true rfl) (Nat.le_of_ble_eq_true rfl) ?_
  refine va_putF (D := G.1) (ci := 6) (v := .ref (u3 13)) (ty := .object "QuarryBlends$Faces") (C := RX6) (T := TX6) (N := 10) hx hb hts iX6_init_X6 tyX6 tyX6_ok nmX6 hown hKn.k hP hD hS 6 rfl rfl 1 (by decide) (hts _ lX6_init_f26) (fun _ h9 => h9) rfl hin rfl (by decide +kernel) rfl rfl (Nat.le_of_ble_eq_true rfl) dX6_init_25 (fun H locs hP hD hS => ?_)
  have hP : va_P G.1 vwCl ([((u3 13), .inr (3, [.ref (u3 2), .ref (u3 3), .ref (u3 4), .ref (u3 5), .int 0])), ((u3 2), .inl (G.2.1 0, 8, .inl (fun _ => 0))), ((u3 3), .inl (G.2.1 0, 8, .inl (fun _ => 0))), ((u3 4), .inl (G.2.1 0, 8, .inl (fun _ => 0))), ((u3 5), .inl (G.2.1 0, 8, .inl (fun _ => 0)))] ++ ([(q1, .inl (G.2.1 0, 6, .inl (qFs)))] ++ ([(h0, .inr (6, [.ref q1, .ref (u3 13), .null, .null, .null, .null, .int 0, .int 0, .int 0, .int 0]))] ++ R))) H := hP
  have hD : va_D A ([((u3 13), .inr (3, [.ref (u3 2), .ref (u3 3), .ref (u3 4), .ref (u3 5), .int 0])), ((u3 2), .inl (G.2.1 0, 8, .inl (fun _ => 0))), ((u3 3), .inl (G.2.1 0, 8, .inl (fun _ => 0))), ((u3 4), .inl (G.2.1 0, 8, .inl (fun _ => 0))), ((u3 5), .inl (G.2.1 0, 8, .inl (fun _ => 0)))] ++ ([(q1, .inl (G.2.1 0, 6, .inl (qFs)))] ++ ([(h0, .inr (6, [.ref q1, .ref (u3 13), .null, .null, .null, .null, .int 0, .int 0, .int 0, .int 0]))] ++ R))) := hD
  refine lv_aload_n hx hb dX6_init_28 rfl (lv_at hl 0 rfl) ?_
  refine q_new (ci := 8) (fs := [.null, .null, .null, .null]) (C := RX8) (T := TX8) (N := 4) hx hb hts iX6_init_X8 tyX8 tyX8_ok hown (hts _ lX6_init_c30) (hts _ lX6_init_iX8) (hts _ lX6_init_nX8) hP hD hS hA hKn rfl (by intro j hj; rcases (show j = 0 ∨ j = 1 ∨ j = 2 ∨ j = 3 by omega) with rfl | rfl | rfl | rfl <;> rfl) (Nat.le_of_ble_eq_true rfl) (Nat.le_of_ble_eq_true rfl) dX6_init_29 (fun q4 H hP hD hS => ?_)
  have hP : va_P G.1 vwCl ([(q4, .inr (8, [.null, .null, .null, .null]))] ++ ([((u3 13), .inr (3, [.ref (u3 2), .ref (u3 3), .ref (u3 4), .ref (u3 5), .int 0])), ((u3 2), .inl (G.2.1 0, 8, .inl (fun _ => 0))), ((u3 3), .inl (G.2.1 0, 8, .inl (fun _ => 0))), ((u3 4), .inl (G.2.1 0, 8, .inl (fun _ => 0))), ((u3 5), .inl (G.2.1 0, 8, .inl (fun _ => 0)))] ++ ([(q1, .inl (G.2.1 0, 6, .inl (qFs)))] ++ ([(h0, .inr (6, [.ref q1, .ref (u3 13), .null, .null, .null, .null, .int 0, .int 0, .int 0, .int 0]))] ++ R)))) H := hP
  have hD : va_D A ([(q4, .inr (8, [.null, .null, .null, .null]))] ++ ([((u3 13), .inr (3, [.ref (u3 2), .ref (u3 3), .ref (u3 4), .ref (u3 5), .int 0])), ((u3 2), .inl (G.2.1 0, 8, .inl (fun _ => 0))), ((u3 3), .inl (G.2.1 0, 8, .inl (fun _ => 0))), ((u3 4), .inl (G.2.1 0, 8, .inl (fun _ => 0))), ((u3 5), .inl (G.2.1 0, 8, .inl (fun _ => 0)))] ++ ([(q1, .inl (G.2.1 0, 6, .inl (qFs)))] ++ ([(h0, .inr (6, [.ref q1, .ref (u3 13), .null, .null, .null, .null, .int 0, .int 0, .int 0, .int 0]))] ++ R)))) := hD
  refine W.widen (k := 7) (n := 47) (Nat.le_of_ble_eq_true rfl) (Nat.le_of_ble_eq_true rfl) ?_
  refine lv_dup hx hb dX6_init_32 rfl ?_
  refine qc_I (As := []) (rest := [.ref q4, .ref h0]) ⟨hx, hb, hml, hown, hts⟩ (mX8_init l G q4 ([((u3 13), .inr (3, [.ref (u3 2), .ref (u3 3), .ref (u3 4), .ref (u3 5), .int 0])), ((u3 2), .inl (G.2.1 0, 8, .inl (fun _ => 0))), ((u3 3), .inl (G.2.1 0, 8, .inl (fun _ => 0))), ((u3 4), .inl (G.2.1 0, 8, .inl (fun _ => 0))), ((u3 5), .inl (G.2.1 0, 8, .inl (fun _ => 0)))] ++ ([(q1, .inl (G.2.1 0, 6, .inl (qFs)))] ++ ([(h0, .inr (6, [.ref q1, .ref (u3 13), .null, .null, .null, .null, .int 0, .int 0, .int 0, .int 0]))] ++ R))) _) (cwI 0 hts gX6_init_X8_init rfl rfl rfl (hts _ lX6_init_nX8) (hts _ lX6_init_m32) (hts _ lX6_init_yX8_init) rfl (by decide +kernel) ⟨Nat.le_of_ble_eq_true rfl, Nat.le_of_ble_eq_true rfl⟩) hP hD hS hA hKn hEx rfl hl.1 rfl (Nat.le_of_ble_eq_true rfl) dX6_init_33 ⟨Nat.le_of_ble_eq_true rfl, Nat.le_of_ble_eq_true rfl⟩ (fun u5 H locs hu hP hD hS => ?_)
  have hu : u5 14 = q4 := hu
  rw [← hu]
  have hP : va_P G.1 vwCl ([((u5 14), .inr (8, [.ref (u5 6), .ref (u5 7), .ref (u5 8), .ref (u5 9)])), ((u5 6), .inl (G.2.1 0, 20, .inl (fun j => if j < 20 then (-6 : Int32) else 0))), ((u5 7), .inl (G.2.1 0, 20, .inl (fun _ => 0))), ((u5 8), .inl (G.2.1 0, 20, .inl (fun _ => 0))), ((u5 9), .inl (G.2.1 0, 20, .inl (fun _ => 0)))] ++ ([((u3 13), .inr (3, [.ref (u3 2), .ref (u3 3), .ref (u3 4), .ref (u3 5), .int 0])), ((u3 2), .inl (G.2.1 0, 8, .inl (fun _ => 0))), ((u3 3), .inl (G.2.1 0, 8, .inl (fun _ => 0))), ((u3 4), .inl (G.2.1 0, 8, .inl (fun _ => 0))), ((u3 5), .inl (G.2.1 0, 8, .inl (fun _ => 0)))] ++ ([(q1, .inl (G.2.1 0, 6, .inl (qFs)))] ++ ([(h0, .inr (6, [.ref q1, .ref (u3 13), .null, .null, .null, .null, .int 0, .int 0, .int 0, .int 0]))] ++ R)))) H := hP
  have hD : va_D A ([((u5 14), .inr (8, [.ref (u5 6), .ref (u5 7), .ref (u5 8), .ref (u5 9)])), ((u5 6), .inl (G.2.1 0, 20, .inl (fun j => if j < 20 then (-6 : Int32) else 0))), ((u5 7), .inl (G.2.1 0, 20, .inl (fun _ => 0))), ((u5 8), .inl (G.2.1 0, 20, .inl (fun _ => 0))), ((u5 9), .inl (G.2.1 0, 20, .inl (fun _ => 0)))] ++ ([((u3 13), .inr (3, [.ref (u3 2), .ref (u3 3), .ref (u3 4), .ref (u3 5), .int 0])), ((u3 2), .inl (G.2.1 0, 8, .inl (fun _ => 0))), ((u3 3), .inl (G.2.1 0, 8, .inl (fun _ => 0))), ((u3 4), .inl (G.2.1 0, 8, .inl (fun _ => 0))), ((u3 5), .inl (G.2.1 0, 8, .inl (fun _ => 0)))] ++ ([(q1, .inl (G.2.1 0, 6, .inl (qFs)))] ++ ([(h0, .inr (6, [.ref q1, .ref (u3 13), .null, .null, .null, .null, .int 0, .int 0, .int 0, .int 0]))] ++ R)))) := hD
  refine W.widen (k := 11) (n := 127) (Nat.le_of_ble_eq_true rfl) (Nat.le_of_ble_eq_true rfl) ?_
  refine va_putF (D := G.1) (ci := 6) (v := .ref (u5 14)) (ty := .object "QuarryBlends$Trucks") (C := RX6) (T := TX6) (N := 10) hx hb hts iX6_init_X6 tyX6 tyX6_ok nmX6 hown hKn.k hP hD hS 11 rfl rfl 2 (by decide) (hts _ lX6_init_f33) (fun _ h9 => h9) rfl hin rfl (by decide +kernel) rfl rfl (Nat.le_of_ble_eq_true rfl) dX6_init_36 (fun H locs hP hD hS => ?_)
  have hP : va_P G.1 vwCl ([((u5 14), .inr (8, [.ref (u5 6), .ref (u5 7), .ref (u5 8), .ref (u5 9)])), ((u5 6), .inl (G.2.1 0, 20, .inl (fun j => if j < 20 then (-6 : Int32) else 0))), ((u5 7), .inl (G.2.1 0, 20, .inl (fun _ => 0))), ((u5 8), .inl (G.2.1 0, 20, .inl (fun _ => 0))), ((u5 9), .inl (G.2.1 0, 20, .inl (fun _ => 0)))] ++ ([((u3 13), .inr (3, [.ref (u3 2), .ref (u3 3), .ref (u3 4), .ref (u3 5), .int 0])), ((u3 2), .inl (G.2.1 0, 8, .inl (fun _ => 0))), ((u3 3), .inl (G.2.1 0, 8, .inl (fun _ => 0))), ((u3 4), .inl (G.2.1 0, 8, .inl (fun _ => 0))), ((u3 5), .inl (G.2.1 0, 8, .inl (fun _ => 0)))] ++ ([(q1, .inl (G.2.1 0, 6, .inl (qFs)))] ++ ([(h0, .inr (6, [.ref q1, .ref (u3 13), .ref (u5 14), .null, .null, .null, .int 0, .int 0, .int 0, .int 0]))] ++ R)))) H := hP
  have hD : va_D A ([((u5 14), .inr (8, [.ref (u5 6), .ref (u5 7), .ref (u5 8), .ref (u5 9)])), ((u5 6), .inl (G.2.1 0, 20, .inl (fun j => if j < 20 then (-6 : Int32) else 0))), ((u5 7), .inl (G.2.1 0, 20, .inl (fun _ => 0))), ((u5 8), .inl (G.2.1 0, 20, .inl (fun _ => 0))), ((u5 9), .inl (G.2.1 0, 20, .inl (fun _ => 0)))] ++ ([((u3 13), .inr (3, [.ref (u3 2), .ref (u3 3), .ref (u3 4), .ref (u3 5), .int 0])), ((u3 2), .inl (G.2.1 0, 8, .inl (fun _ => 0))), ((u3 3), .inl (G.2.1 0, 8, .inl (fun _ => 0))), ((u3 4), .inl (G.2.1 0, 8, .inl (fun _ => 0))), ((u3 5), .inl (G.2.1 0, 8, .inl (fun _ => 0)))] ++ ([(q1, .inl (G.2.1 0, 6, .inl (qFs)))] ++ ([(h0, .inr (6, [.ref q1, .ref (u3 13), .ref (u5 14), .null, .null, .null, .int 0, .int 0, .int 0, .int 0]))] ++ R)))) := hD
  refine lv_aload_n hx hb dX6_init_39 rfl (lv_at hl 0 rfl) ?_
  refine q_new (ci := 2) (fs := [.null, .null, .int 0, .int 0]) (C := RX2) (T := TX2) (N := 4) hx hb hts iX6_init_X2 tyX2 tyX2_ok hown (hts _ lX6_init_c37) (hts _ lX6_init_iX2) (hts _ lX6_init_nX2) hP hD hS hA hKn rfl (by intro j hj; rcases (show j = 0 ∨ j = 1 ∨ j = 2 ∨ j = 3 by omega) with rfl | rfl | rfl | rfl <;> rfl) (Nat.le_of_ble_eq_true rfl) (Nat.le_of_ble_eq_true rfl) dX6_init_40 (fun q6 H hP hD hS => ?_)
  have hP : va_P G.1 vwCl ([(q6, .inr (2, [.null, .null, .int 0, .int 0]))] ++ ([((u5 14), .inr (8, [.ref (u5 6), .ref (u5 7), .ref (u5 8), .ref (u5 9)])), ((u5 6), .inl (G.2.1 0, 20, .inl (fun j => if j < 20 then (-6 : Int32) else 0))), ((u5 7), .inl (G.2.1 0, 20, .inl (fun _ => 0))), ((u5 8), .inl (G.2.1 0, 20, .inl (fun _ => 0))), ((u5 9), .inl (G.2.1 0, 20, .inl (fun _ => 0)))] ++ ([((u3 13), .inr (3, [.ref (u3 2), .ref (u3 3), .ref (u3 4), .ref (u3 5), .int 0])), ((u3 2), .inl (G.2.1 0, 8, .inl (fun _ => 0))), ((u3 3), .inl (G.2.1 0, 8, .inl (fun _ => 0))), ((u3 4), .inl (G.2.1 0, 8, .inl (fun _ => 0))), ((u3 5), .inl (G.2.1 0, 8, .inl (fun _ => 0)))] ++ ([(q1, .inl (G.2.1 0, 6, .inl (qFs)))] ++ ([(h0, .inr (6, [.ref q1, .ref (u3 13), .ref (u5 14), .null, .null, .null, .int 0, .int 0, .int 0, .int 0]))] ++ R))))) H := hP
  have hD : va_D A ([(q6, .inr (2, [.null, .null, .int 0, .int 0]))] ++ ([((u5 14), .inr (8, [.ref (u5 6), .ref (u5 7), .ref (u5 8), .ref (u5 9)])), ((u5 6), .inl (G.2.1 0, 20, .inl (fun j => if j < 20 then (-6 : Int32) else 0))), ((u5 7), .inl (G.2.1 0, 20, .inl (fun _ => 0))), ((u5 8), .inl (G.2.1 0, 20, .inl (fun _ => 0))), ((u5 9), .inl (G.2.1 0, 20, .inl (fun _ => 0)))] ++ ([((u3 13), .inr (3, [.ref (u3 2), .ref (u3 3), .ref (u3 4), .ref (u3 5), .int 0])), ((u3 2), .inl (G.2.1 0, 8, .inl (fun _ => 0))), ((u3 3), .inl (G.2.1 0, 8, .inl (fun _ => 0))), ((u3 4), .inl (G.2.1 0, 8, .inl (fun _ => 0))), ((u3 5), .inl (G.2.1 0, 8, .inl (fun _ => 0)))] ++ ([(q1, .inl (G.2.1 0, 6, .inl (qFs)))] ++ ([(h0, .inr (6, [.ref q1, .ref (u3 13), .ref (u5 14), .null, .null, .null, .int 0, .int 0, .int 0, .int 0]))] ++ R))))) := hD
  refine W.widen (k := 12) (n := 131) (Nat.le_of_ble_eq_true rfl) (Nat.le_of_ble_eq_true rfl) ?_
  refine lv_dup hx hb dX6_init_43 rfl ?_
  refine qc_IN (As := []) (rest := [.ref q6, .ref h0]) ⟨hx, hb, hml, hown, hts⟩ (mX2_init l G q6 ([((u5 14), .inr (8, [.ref (u5 6), .ref (u5 7), .ref (u5 8), .ref (u5 9)])), ((u5 6), .inl (G.2.1 0, 20, .inl (fun j => if j < 20 then (-6 : Int32) else 0))), ((u5 7), .inl (G.2.1 0, 20, .inl (fun _ => 0))), ((u5 8), .inl (G.2.1 0, 20, .inl (fun _ => 0))), ((u5 9), .inl (G.2.1 0, 20, .inl (fun _ => 0)))] ++ ([((u3 13), .inr (3, [.ref (u3 2), .ref (u3 3), .ref (u3 4), .ref (u3 5), .int 0])), ((u3 2), .inl (G.2.1 0, 8, .inl (fun _ => 0))), ((u3 3), .inl (G.2.1 0, 8, .inl (fun _ => 0))), ((u3 4), .inl (G.2.1 0, 8, .inl (fun _ => 0))), ((u3 5), .inl (G.2.1 0, 8, .inl (fun _ => 0)))] ++ ([(q1, .inl (G.2.1 0, 6, .inl (qFs)))] ++ ([(h0, .inr (6, [.ref q1, .ref (u3 13), .ref (u5 14), .null, .null, .null, .int 0, .int 0, .int 0, .int 0]))] ++ R)))) _) ⟨va_cnB 0 hts gX6_init_X2_init_n39 rfl rfl rfl (hKn.2.1 _ (List.mem_of_getElem? (i := 2) rfl)) (hts _ lX6_init_nX2) (by decide +kernel) ⟨Nat.le_of_ble_eq_true rfl, Nat.le_of_ble_eq_true rfl⟩, rfl, (hts _ lX6_init_yX2_init)⟩ hP hD hS hA hKn hEx rfl hl.1 rfl (Nat.le_of_ble_eq_true rfl) dX6_init_44 ⟨Nat.le_of_ble_eq_true rfl, Nat.le_of_ble_eq_true rfl⟩ (fun u7 H locs hu hP hD hS => ?_)
  have hu : u7 15 = q6 := hu
  rw [← hu]
  have hP : va_P G.1 vwCl ([((u7 15), .inr (2, [.ref (u7 10), .ref (u7 11), .int 0, .int 0])), ((u7 10), .inl (G.2.1 0, 10, .inl (fun _ => 0))), ((u7 11), .inl (G.2.1 0, 3, .inl (fun _ => 0)))] ++ ([((u5 14), .inr (8, [.ref (u5 6), .ref (u5 7), .ref (u5 8), .ref (u5 9)])), ((u5 6), .inl (G.2.1 0, 20, .inl (fun j => if j < 20 then (-6 : Int32) else 0))), ((u5 7), .inl (G.2.1 0, 20, .inl (fun _ => 0))), ((u5 8), .inl (G.2.1 0, 20, .inl (fun _ => 0))), ((u5 9), .inl (G.2.1 0, 20, .inl (fun _ => 0)))] ++ ([((u3 13), .inr (3, [.ref (u3 2), .ref (u3 3), .ref (u3 4), .ref (u3 5), .int 0])), ((u3 2), .inl (G.2.1 0, 8, .inl (fun _ => 0))), ((u3 3), .inl (G.2.1 0, 8, .inl (fun _ => 0))), ((u3 4), .inl (G.2.1 0, 8, .inl (fun _ => 0))), ((u3 5), .inl (G.2.1 0, 8, .inl (fun _ => 0)))] ++ ([(q1, .inl (G.2.1 0, 6, .inl (qFs)))] ++ ([(h0, .inr (6, [.ref q1, .ref (u3 13), .ref (u5 14), .null, .null, .null, .int 0, .int 0, .int 0, .int 0]))] ++ R))))) H := hP
  have hD : va_D A ([((u7 15), .inr (2, [.ref (u7 10), .ref (u7 11), .int 0, .int 0])), ((u7 10), .inl (G.2.1 0, 10, .inl (fun _ => 0))), ((u7 11), .inl (G.2.1 0, 3, .inl (fun _ => 0)))] ++ ([((u5 14), .inr (8, [.ref (u5 6), .ref (u5 7), .ref (u5 8), .ref (u5 9)])), ((u5 6), .inl (G.2.1 0, 20, .inl (fun j => if j < 20 then (-6 : Int32) else 0))), ((u5 7), .inl (G.2.1 0, 20, .inl (fun _ => 0))), ((u5 8), .inl (G.2.1 0, 20, .inl (fun _ => 0))), ((u5 9), .inl (G.2.1 0, 20, .inl (fun _ => 0)))] ++ ([((u3 13), .inr (3, [.ref (u3 2), .ref (u3 3), .ref (u3 4), .ref (u3 5), .int 0])), ((u3 2), .inl (G.2.1 0, 8, .inl (fun _ => 0))), ((u3 3), .inl (G.2.1 0, 8, .inl (fun _ => 0))), ((u3 4), .inl (G.2.1 0, 8, .inl (fun _ => 0))), ((u3 5), .inl (G.2.1 0, 8, .inl (fun _ => 0)))] ++ ([(q1, .inl (G.2.1 0, 6, .inl (qFs)))] ++ ([(h0, .inr (6, [.ref q1, .ref (u3 13), .ref (u5 14), .null, .null, .null, .int 0, .int 0, .int 0, .int 0]))] ++ R))))) := hD
  refine W.widen (k := 14) (n := 144) (Nat.le_of_ble_eq_true rfl) (Nat.le_of_ble_eq_true rfl) ?_
  refine va_putF (D := G.1) (ci := 6) (v := .ref (u7 15)) (ty := .object "QuarryBlends$Crusher") (C := RX6) (T := TX6) (N := 10) hx hb hts iX6_init_X6 tyX6 tyX6_ok nmX6 hown hKn.k hP hD hS 14 rfl rfl 3 (by decide) (hts _ lX6_init_f40) (fun _ h9 => h9) rfl hin rfl (by decide +kernel) rfl rfl (Nat.le_of_ble_eq_true rfl) dX6_init_47 (fun H locs hP hD hS => ?_)
  have hP : va_P G.1 vwCl ([((u7 15), .inr (2, [.ref (u7 10), .ref (u7 11), .int 0, .int 0])), ((u7 10), .inl (G.2.1 0, 10, .inl (fun _ => 0))), ((u7 11), .inl (G.2.1 0, 3, .inl (fun _ => 0)))] ++ ([((u5 14), .inr (8, [.ref (u5 6), .ref (u5 7), .ref (u5 8), .ref (u5 9)])), ((u5 6), .inl (G.2.1 0, 20, .inl (fun j => if j < 20 then (-6 : Int32) else 0))), ((u5 7), .inl (G.2.1 0, 20, .inl (fun _ => 0))), ((u5 8), .inl (G.2.1 0, 20, .inl (fun _ => 0))), ((u5 9), .inl (G.2.1 0, 20, .inl (fun _ => 0)))] ++ ([((u3 13), .inr (3, [.ref (u3 2), .ref (u3 3), .ref (u3 4), .ref (u3 5), .int 0])), ((u3 2), .inl (G.2.1 0, 8, .inl (fun _ => 0))), ((u3 3), .inl (G.2.1 0, 8, .inl (fun _ => 0))), ((u3 4), .inl (G.2.1 0, 8, .inl (fun _ => 0))), ((u3 5), .inl (G.2.1 0, 8, .inl (fun _ => 0)))] ++ ([(q1, .inl (G.2.1 0, 6, .inl (qFs)))] ++ ([(h0, .inr (6, [.ref q1, .ref (u3 13), .ref (u5 14), .ref (u7 15), .null, .null, .int 0, .int 0, .int 0, .int 0]))] ++ R))))) H := hP
  have hD : va_D A ([((u7 15), .inr (2, [.ref (u7 10), .ref (u7 11), .int 0, .int 0])), ((u7 10), .inl (G.2.1 0, 10, .inl (fun _ => 0))), ((u7 11), .inl (G.2.1 0, 3, .inl (fun _ => 0)))] ++ ([((u5 14), .inr (8, [.ref (u5 6), .ref (u5 7), .ref (u5 8), .ref (u5 9)])), ((u5 6), .inl (G.2.1 0, 20, .inl (fun j => if j < 20 then (-6 : Int32) else 0))), ((u5 7), .inl (G.2.1 0, 20, .inl (fun _ => 0))), ((u5 8), .inl (G.2.1 0, 20, .inl (fun _ => 0))), ((u5 9), .inl (G.2.1 0, 20, .inl (fun _ => 0)))] ++ ([((u3 13), .inr (3, [.ref (u3 2), .ref (u3 3), .ref (u3 4), .ref (u3 5), .int 0])), ((u3 2), .inl (G.2.1 0, 8, .inl (fun _ => 0))), ((u3 3), .inl (G.2.1 0, 8, .inl (fun _ => 0))), ((u3 4), .inl (G.2.1 0, 8, .inl (fun _ => 0))), ((u3 5), .inl (G.2.1 0, 8, .inl (fun _ => 0)))] ++ ([(q1, .inl (G.2.1 0, 6, .inl (qFs)))] ++ ([(h0, .inr (6, [.ref q1, .ref (u3 13), .ref (u5 14), .ref (u7 15), .null, .null, .int 0, .int 0, .int 0, .int 0]))] ++ R))))) := hD
  refine lv_aload_n hx hb dX6_init_50 rfl (lv_at hl 0 rfl) ?_
  refine q_new (ci := 1) (fs := [.null, .int 0]) (C := RX1) (T := TX1) (N := 2) hx hb hts iX6_init_X1 tyX1 tyX1_ok hown (hts _ lX6_init_c44) (hts _ lX6_init_iX1) (hts _ lX6_init_nX1) hP hD hS hA hKn rfl (by intro j hj; rcases (show j = 0 ∨ j = 1 by omega) with rfl | rfl <;> rfl) (Nat.le_of_ble_eq_true rfl) (Nat.le_of_ble_eq_true rfl) dX6_init_51 (fun q8 H hP hD hS => ?_)
  have hP : va_P G.1 vwCl ([(q8, .inr (1, [.null, .int 0]))] ++ ([((u7 15), .inr (2, [.ref (u7 10), .ref (u7 11), .int 0, .int 0])), ((u7 10), .inl (G.2.1 0, 10, .inl (fun _ => 0))), ((u7 11), .inl (G.2.1 0, 3, .inl (fun _ => 0)))] ++ ([((u5 14), .inr (8, [.ref (u5 6), .ref (u5 7), .ref (u5 8), .ref (u5 9)])), ((u5 6), .inl (G.2.1 0, 20, .inl (fun j => if j < 20 then (-6 : Int32) else 0))), ((u5 7), .inl (G.2.1 0, 20, .inl (fun _ => 0))), ((u5 8), .inl (G.2.1 0, 20, .inl (fun _ => 0))), ((u5 9), .inl (G.2.1 0, 20, .inl (fun _ => 0)))] ++ ([((u3 13), .inr (3, [.ref (u3 2), .ref (u3 3), .ref (u3 4), .ref (u3 5), .int 0])), ((u3 2), .inl (G.2.1 0, 8, .inl (fun _ => 0))), ((u3 3), .inl (G.2.1 0, 8, .inl (fun _ => 0))), ((u3 4), .inl (G.2.1 0, 8, .inl (fun _ => 0))), ((u3 5), .inl (G.2.1 0, 8, .inl (fun _ => 0)))] ++ ([(q1, .inl (G.2.1 0, 6, .inl (qFs)))] ++ ([(h0, .inr (6, [.ref q1, .ref (u3 13), .ref (u5 14), .ref (u7 15), .null, .null, .int 0, .int 0, .int 0, .int 0]))] ++ R)))))) H := hP
  have hD : va_D A ([(q8, .inr (1, [.null, .int 0]))] ++ ([((u7 15), .inr (2, [.ref (u7 10), .ref (u7 11), .int 0, .int 0])), ((u7 10), .inl (G.2.1 0, 10, .inl (fun _ => 0))), ((u7 11), .inl (G.2.1 0, 3, .inl (fun _ => 0)))] ++ ([((u5 14), .inr (8, [.ref (u5 6), .ref (u5 7), .ref (u5 8), .ref (u5 9)])), ((u5 6), .inl (G.2.1 0, 20, .inl (fun j => if j < 20 then (-6 : Int32) else 0))), ((u5 7), .inl (G.2.1 0, 20, .inl (fun _ => 0))), ((u5 8), .inl (G.2.1 0, 20, .inl (fun _ => 0))), ((u5 9), .inl (G.2.1 0, 20, .inl (fun _ => 0)))] ++ ([((u3 13), .inr (3, [.ref (u3 2), .ref (u3 3), .ref (u3 4), .ref (u3 5), .int 0])), ((u3 2), .inl (G.2.1 0, 8, .inl (fun _ => 0))), ((u3 3), .inl (G.2.1 0, 8, .inl (fun _ => 0))), ((u3 4), .inl (G.2.1 0, 8, .inl (fun _ => 0))), ((u3 5), .inl (G.2.1 0, 8, .inl (fun _ => 0)))] ++ ([(q1, .inl (G.2.1 0, 6, .inl (qFs)))] ++ ([(h0, .inr (6, [.ref q1, .ref (u3 13), .ref (u5 14), .ref (u7 15), .null, .null, .int 0, .int 0, .int 0, .int 0]))] ++ R)))))) := hD
  refine W.widen (k := 15) (n := 146) (Nat.le_of_ble_eq_true rfl) (Nat.le_of_ble_eq_true rfl) ?_
  refine lv_dup hx hb dX6_init_54 rfl ?_
  refine qc_IN (As := []) (rest := [.ref q8, .ref h0]) ⟨hx, hb, hml, hown, hts⟩ (mX1_init l G q8 ([((u7 15), .inr (2, [.ref (u7 10), .ref (u7 11), .int 0, .int 0])), ((u7 10), .inl (G.2.1 0, 10, .inl (fun _ => 0))), ((u7 11), .inl (G.2.1 0, 3, .inl (fun _ => 0)))] ++ ([((u5 14), .inr (8, [.ref (u5 6), .ref (u5 7), .ref (u5 8), .ref (u5 9)])), ((u5 6), .inl (G.2.1 0, 20, .inl (fun j => if j < 20 then (-6 : Int32) else 0))), ((u5 7), .inl (G.2.1 0, 20, .inl (fun _ => 0))), ((u5 8), .inl (G.2.1 0, 20, .inl (fun _ => 0))), ((u5 9), .inl (G.2.1 0, 20, .inl (fun _ => 0)))] ++ ([((u3 13), .inr (3, [.ref (u3 2), .ref (u3 3), .ref (u3 4), .ref (u3 5), .int 0])), ((u3 2), .inl (G.2.1 0, 8, .inl (fun _ => 0))), ((u3 3), .inl (G.2.1 0, 8, .inl (fun _ => 0))), ((u3 4), .inl (G.2.1 0, 8, .inl (fun _ => 0))), ((u3 5), .inl (G.2.1 0, 8, .inl (fun _ => 0)))] ++ ([(q1, .inl (G.2.1 0, 6, .inl (qFs)))] ++ ([(h0, .inr (6, [.ref q1, .ref (u3 13), .ref (u5 14), .ref (u7 15), .null, .null, .int 0, .int 0, .int 0, .int 0]))] ++ R))))) _) ⟨va_cnB 0 hts gX6_init_X1_init_n46 rfl rfl rfl (hKn.2.1 _ (List.mem_of_getElem? (i := 3) rfl)) (hts _ lX6_init_nX1) (by decide +kernel) ⟨Nat.le_of_ble_eq_true rfl, Nat.le_of_ble_eq_true rfl⟩, rfl, (hts _ lX6_init_yX1_init)⟩ hP hD hS hA hKn hEx rfl hl.1 rfl (Nat.le_of_ble_eq_true rfl) dX6_init_55 ⟨Nat.le_of_ble_eq_true rfl, Nat.le_of_ble_eq_true rfl⟩ (fun u9 H locs hu hP hD hS => ?_)
  have hu : u9 16 = q8 := hu
  rw [← hu]
  have hP : va_P G.1 vwCl ([((u9 16), .inr (1, [.ref (u9 12), .int 0])), ((u9 12), .inl (G.2.1 0, 72, .inl (fun _ => 0)))] ++ ([((u7 15), .inr (2, [.ref (u7 10), .ref (u7 11), .int 0, .int 0])), ((u7 10), .inl (G.2.1 0, 10, .inl (fun _ => 0))), ((u7 11), .inl (G.2.1 0, 3, .inl (fun _ => 0)))] ++ ([((u5 14), .inr (8, [.ref (u5 6), .ref (u5 7), .ref (u5 8), .ref (u5 9)])), ((u5 6), .inl (G.2.1 0, 20, .inl (fun j => if j < 20 then (-6 : Int32) else 0))), ((u5 7), .inl (G.2.1 0, 20, .inl (fun _ => 0))), ((u5 8), .inl (G.2.1 0, 20, .inl (fun _ => 0))), ((u5 9), .inl (G.2.1 0, 20, .inl (fun _ => 0)))] ++ ([((u3 13), .inr (3, [.ref (u3 2), .ref (u3 3), .ref (u3 4), .ref (u3 5), .int 0])), ((u3 2), .inl (G.2.1 0, 8, .inl (fun _ => 0))), ((u3 3), .inl (G.2.1 0, 8, .inl (fun _ => 0))), ((u3 4), .inl (G.2.1 0, 8, .inl (fun _ => 0))), ((u3 5), .inl (G.2.1 0, 8, .inl (fun _ => 0)))] ++ ([(q1, .inl (G.2.1 0, 6, .inl (qFs)))] ++ ([(h0, .inr (6, [.ref q1, .ref (u3 13), .ref (u5 14), .ref (u7 15), .null, .null, .int 0, .int 0, .int 0, .int 0]))] ++ R)))))) H := hP
  have hD : va_D A ([((u9 16), .inr (1, [.ref (u9 12), .int 0])), ((u9 12), .inl (G.2.1 0, 72, .inl (fun _ => 0)))] ++ ([((u7 15), .inr (2, [.ref (u7 10), .ref (u7 11), .int 0, .int 0])), ((u7 10), .inl (G.2.1 0, 10, .inl (fun _ => 0))), ((u7 11), .inl (G.2.1 0, 3, .inl (fun _ => 0)))] ++ ([((u5 14), .inr (8, [.ref (u5 6), .ref (u5 7), .ref (u5 8), .ref (u5 9)])), ((u5 6), .inl (G.2.1 0, 20, .inl (fun j => if j < 20 then (-6 : Int32) else 0))), ((u5 7), .inl (G.2.1 0, 20, .inl (fun _ => 0))), ((u5 8), .inl (G.2.1 0, 20, .inl (fun _ => 0))), ((u5 9), .inl (G.2.1 0, 20, .inl (fun _ => 0)))] ++ ([((u3 13), .inr (3, [.ref (u3 2), .ref (u3 3), .ref (u3 4), .ref (u3 5), .int 0])), ((u3 2), .inl (G.2.1 0, 8, .inl (fun _ => 0))), ((u3 3), .inl (G.2.1 0, 8, .inl (fun _ => 0))), ((u3 4), .inl (G.2.1 0, 8, .inl (fun _ => 0))), ((u3 5), .inl (G.2.1 0, 8, .inl (fun _ => 0)))] ++ ([(q1, .inl (G.2.1 0, 6, .inl (qFs)))] ++ ([(h0, .inr (6, [.ref q1, .ref (u3 13), .ref (u5 14), .ref (u7 15), .null, .null, .int 0, .int 0, .int 0, .int 0]))] ++ R)))))) := hD
  refine W.widen (k := 16) (n := 218) (Nat.le_of_ble_eq_true rfl) (Nat.le_of_ble_eq_true rfl) ?_
  refine va_putF (D := G.1) (ci := 6) (v := .ref (u9 16)) (ty := .object "QuarryBlends$Contracts") (C := RX6) (T := TX6) (N := 10) hx hb hts iX6_init_X6 tyX6 tyX6_ok nmX6 hown hKn.k hP hD hS 16 rfl rfl 4 (by decide) (hts _ lX6_init_f47) (fun _ h9 => h9) rfl hin rfl (by decide +kernel) rfl rfl (Nat.le_of_ble_eq_true rfl) dX6_init_58 (fun H locs hP hD hS => ?_)
  have hP : va_P G.1 vwCl ([((u9 16), .inr (1, [.ref (u9 12), .int 0])), ((u9 12), .inl (G.2.1 0, 72, .inl (fun _ => 0)))] ++ ([((u7 15), .inr (2, [.ref (u7 10), .ref (u7 11), .int 0, .int 0])), ((u7 10), .inl (G.2.1 0, 10, .inl (fun _ => 0))), ((u7 11), .inl (G.2.1 0, 3, .inl (fun _ => 0)))] ++ ([((u5 14), .inr (8, [.ref (u5 6), .ref (u5 7), .ref (u5 8), .ref (u5 9)])), ((u5 6), .inl (G.2.1 0, 20, .inl (fun j => if j < 20 then (-6 : Int32) else 0))), ((u5 7), .inl (G.2.1 0, 20, .inl (fun _ => 0))), ((u5 8), .inl (G.2.1 0, 20, .inl (fun _ => 0))), ((u5 9), .inl (G.2.1 0, 20, .inl (fun _ => 0)))] ++ ([((u3 13), .inr (3, [.ref (u3 2), .ref (u3 3), .ref (u3 4), .ref (u3 5), .int 0])), ((u3 2), .inl (G.2.1 0, 8, .inl (fun _ => 0))), ((u3 3), .inl (G.2.1 0, 8, .inl (fun _ => 0))), ((u3 4), .inl (G.2.1 0, 8, .inl (fun _ => 0))), ((u3 5), .inl (G.2.1 0, 8, .inl (fun _ => 0)))] ++ ([(q1, .inl (G.2.1 0, 6, .inl (qFs)))] ++ ([(h0, .inr (6, [.ref q1, .ref (u3 13), .ref (u5 14), .ref (u7 15), .ref (u9 16), .null, .int 0, .int 0, .int 0, .int 0]))] ++ R)))))) H := hP
  have hD : va_D A ([((u9 16), .inr (1, [.ref (u9 12), .int 0])), ((u9 12), .inl (G.2.1 0, 72, .inl (fun _ => 0)))] ++ ([((u7 15), .inr (2, [.ref (u7 10), .ref (u7 11), .int 0, .int 0])), ((u7 10), .inl (G.2.1 0, 10, .inl (fun _ => 0))), ((u7 11), .inl (G.2.1 0, 3, .inl (fun _ => 0)))] ++ ([((u5 14), .inr (8, [.ref (u5 6), .ref (u5 7), .ref (u5 8), .ref (u5 9)])), ((u5 6), .inl (G.2.1 0, 20, .inl (fun j => if j < 20 then (-6 : Int32) else 0))), ((u5 7), .inl (G.2.1 0, 20, .inl (fun _ => 0))), ((u5 8), .inl (G.2.1 0, 20, .inl (fun _ => 0))), ((u5 9), .inl (G.2.1 0, 20, .inl (fun _ => 0)))] ++ ([((u3 13), .inr (3, [.ref (u3 2), .ref (u3 3), .ref (u3 4), .ref (u3 5), .int 0])), ((u3 2), .inl (G.2.1 0, 8, .inl (fun _ => 0))), ((u3 3), .inl (G.2.1 0, 8, .inl (fun _ => 0))), ((u3 4), .inl (G.2.1 0, 8, .inl (fun _ => 0))), ((u3 5), .inl (G.2.1 0, 8, .inl (fun _ => 0)))] ++ ([(q1, .inl (G.2.1 0, 6, .inl (qFs)))] ++ ([(h0, .inr (6, [.ref q1, .ref (u3 13), .ref (u5 14), .ref (u7 15), .ref (u9 16), .null, .int 0, .int 0, .int 0, .int 0]))] ++ R)))))) := hD
  refine lv_aload_n hx hb dX6_init_61 rfl (lv_at hl 0 rfl) ?_
  refine q_new (ci := 0) (fs := [.int 0, .int 0, .int 0, .int 0, .int 0, .int 0, .int 0, .int 0]) (C := RX0) (T := TX0) (N := 8) hx hb hts iX6_init_X0 tyX0 tyX0_ok hown (hts _ lX6_init_c51) (hts _ lX6_init_iX0) (hts _ lX6_init_nX0) hP hD hS hA hKn rfl (by intro j hj; rcases (show j = 0 ∨ j = 1 ∨ j = 2 ∨ j = 3 ∨ j = 4 ∨ j = 5 ∨ j = 6 ∨ j = 7 by omega) with rfl | rfl | rfl | rfl | rfl | rfl | rfl | rfl <;> rfl) (Nat.le_of_ble_eq_true rfl) (Nat.le_of_ble_eq_true rfl) dX6_init_62 (fun q10 H hP hD hS => ?_)
  have hP : va_P G.1 vwCl ([(q10, .inr (0, [.int 0, .int 0, .int 0, .int 0, .int 0, .int 0, .int 0, .int 0]))] ++ ([((u9 16), .inr (1, [.ref (u9 12), .int 0])), ((u9 12), .inl (G.2.1 0, 72, .inl (fun _ => 0)))] ++ ([((u7 15), .inr (2, [.ref (u7 10), .ref (u7 11), .int 0, .int 0])), ((u7 10), .inl (G.2.1 0, 10, .inl (fun _ => 0))), ((u7 11), .inl (G.2.1 0, 3, .inl (fun _ => 0)))] ++ ([((u5 14), .inr (8, [.ref (u5 6), .ref (u5 7), .ref (u5 8), .ref (u5 9)])), ((u5 6), .inl (G.2.1 0, 20, .inl (fun j => if j < 20 then (-6 : Int32) else 0))), ((u5 7), .inl (G.2.1 0, 20, .inl (fun _ => 0))), ((u5 8), .inl (G.2.1 0, 20, .inl (fun _ => 0))), ((u5 9), .inl (G.2.1 0, 20, .inl (fun _ => 0)))] ++ ([((u3 13), .inr (3, [.ref (u3 2), .ref (u3 3), .ref (u3 4), .ref (u3 5), .int 0])), ((u3 2), .inl (G.2.1 0, 8, .inl (fun _ => 0))), ((u3 3), .inl (G.2.1 0, 8, .inl (fun _ => 0))), ((u3 4), .inl (G.2.1 0, 8, .inl (fun _ => 0))), ((u3 5), .inl (G.2.1 0, 8, .inl (fun _ => 0)))] ++ ([(q1, .inl (G.2.1 0, 6, .inl (qFs)))] ++ ([(h0, .inr (6, [.ref q1, .ref (u3 13), .ref (u5 14), .ref (u7 15), .ref (u9 16), .null, .int 0, .int 0, .int 0, .int 0]))] ++ R))))))) H := hP
  have hD : va_D A ([(q10, .inr (0, [.int 0, .int 0, .int 0, .int 0, .int 0, .int 0, .int 0, .int 0]))] ++ ([((u9 16), .inr (1, [.ref (u9 12), .int 0])), ((u9 12), .inl (G.2.1 0, 72, .inl (fun _ => 0)))] ++ ([((u7 15), .inr (2, [.ref (u7 10), .ref (u7 11), .int 0, .int 0])), ((u7 10), .inl (G.2.1 0, 10, .inl (fun _ => 0))), ((u7 11), .inl (G.2.1 0, 3, .inl (fun _ => 0)))] ++ ([((u5 14), .inr (8, [.ref (u5 6), .ref (u5 7), .ref (u5 8), .ref (u5 9)])), ((u5 6), .inl (G.2.1 0, 20, .inl (fun j => if j < 20 then (-6 : Int32) else 0))), ((u5 7), .inl (G.2.1 0, 20, .inl (fun _ => 0))), ((u5 8), .inl (G.2.1 0, 20, .inl (fun _ => 0))), ((u5 9), .inl (G.2.1 0, 20, .inl (fun _ => 0)))] ++ ([((u3 13), .inr (3, [.ref (u3 2), .ref (u3 3), .ref (u3 4), .ref (u3 5), .int 0])), ((u3 2), .inl (G.2.1 0, 8, .inl (fun _ => 0))), ((u3 3), .inl (G.2.1 0, 8, .inl (fun _ => 0))), ((u3 4), .inl (G.2.1 0, 8, .inl (fun _ => 0))), ((u3 5), .inl (G.2.1 0, 8, .inl (fun _ => 0)))] ++ ([(q1, .inl (G.2.1 0, 6, .inl (qFs)))] ++ ([(h0, .inr (6, [.ref q1, .ref (u3 13), .ref (u5 14), .ref (u7 15), .ref (u9 16), .null, .int 0, .int 0, .int 0, .int 0]))] ++ R))))))) := hD
  refine W.widen (k := 17) (n := 226) (Nat.le_of_ble_eq_true rfl) (Nat.le_of_ble_eq_true rfl) ?_
  refine lv_dup hx hb dX6_init_65 rfl ?_
  refine qc_IN (As := []) (rest := [.ref q10, .ref h0]) ⟨hx, hb, hml, hown, hts⟩ (mX0_init l G q10 ([((u9 16), .inr (1, [.ref (u9 12), .int 0])), ((u9 12), .inl (G.2.1 0, 72, .inl (fun _ => 0)))] ++ ([((u7 15), .inr (2, [.ref (u7 10), .ref (u7 11), .int 0, .int 0])), ((u7 10), .inl (G.2.1 0, 10, .inl (fun _ => 0))), ((u7 11), .inl (G.2.1 0, 3, .inl (fun _ => 0)))] ++ ([((u5 14), .inr (8, [.ref (u5 6), .ref (u5 7), .ref (u5 8), .ref (u5 9)])), ((u5 6), .inl (G.2.1 0, 20, .inl (fun j => if j < 20 then (-6 : Int32) else 0))), ((u5 7), .inl (G.2.1 0, 20, .inl (fun _ => 0))), ((u5 8), .inl (G.2.1 0, 20, .inl (fun _ => 0))), ((u5 9), .inl (G.2.1 0, 20, .inl (fun _ => 0)))] ++ ([((u3 13), .inr (3, [.ref (u3 2), .ref (u3 3), .ref (u3 4), .ref (u3 5), .int 0])), ((u3 2), .inl (G.2.1 0, 8, .inl (fun _ => 0))), ((u3 3), .inl (G.2.1 0, 8, .inl (fun _ => 0))), ((u3 4), .inl (G.2.1 0, 8, .inl (fun _ => 0))), ((u3 5), .inl (G.2.1 0, 8, .inl (fun _ => 0)))] ++ ([(q1, .inl (G.2.1 0, 6, .inl (qFs)))] ++ ([(h0, .inr (6, [.ref q1, .ref (u3 13), .ref (u5 14), .ref (u7 15), .ref (u9 16), .null, .int 0, .int 0, .int 0, .int 0]))] ++ R)))))) _) ⟨va_cnB 0 hts gX6_init_X0_init_n53 rfl rfl rfl (hKn.2.1 _ (List.mem_of_getElem? (i := 4) rfl)) (hts _ lX6_init_nX0) (by decide +kernel) ⟨Nat.le_of_ble_eq_true rfl, Nat.le_of_ble_eq_true rfl⟩, rfl, (hts _ lX6_init_yX0_init)⟩ hP hD hS hA hKn hEx rfl hl.1 rfl (Nat.le_of_ble_eq_true rfl) dX6_init_66 ⟨Nat.le_of_ble_eq_true rfl, Nat.le_of_ble_eq_true rfl⟩ (fun u11 H locs hu hP hD hS => ?_)
  have hu : u11 17 = q10 := hu
  rw [← hu]
  have hP : va_P G.1 vwCl ([((u11 17), .inr (0, [.int 0, .int 0, .int 0, .int 0, .int 0, .int 0, .int 0, .int 0]))] ++ ([((u9 16), .inr (1, [.ref (u9 12), .int 0])), ((u9 12), .inl (G.2.1 0, 72, .inl (fun _ => 0)))] ++ ([((u7 15), .inr (2, [.ref (u7 10), .ref (u7 11), .int 0, .int 0])), ((u7 10), .inl (G.2.1 0, 10, .inl (fun _ => 0))), ((u7 11), .inl (G.2.1 0, 3, .inl (fun _ => 0)))] ++ ([((u5 14), .inr (8, [.ref (u5 6), .ref (u5 7), .ref (u5 8), .ref (u5 9)])), ((u5 6), .inl (G.2.1 0, 20, .inl (fun j => if j < 20 then (-6 : Int32) else 0))), ((u5 7), .inl (G.2.1 0, 20, .inl (fun _ => 0))), ((u5 8), .inl (G.2.1 0, 20, .inl (fun _ => 0))), ((u5 9), .inl (G.2.1 0, 20, .inl (fun _ => 0)))] ++ ([((u3 13), .inr (3, [.ref (u3 2), .ref (u3 3), .ref (u3 4), .ref (u3 5), .int 0])), ((u3 2), .inl (G.2.1 0, 8, .inl (fun _ => 0))), ((u3 3), .inl (G.2.1 0, 8, .inl (fun _ => 0))), ((u3 4), .inl (G.2.1 0, 8, .inl (fun _ => 0))), ((u3 5), .inl (G.2.1 0, 8, .inl (fun _ => 0)))] ++ ([(q1, .inl (G.2.1 0, 6, .inl (qFs)))] ++ ([(h0, .inr (6, [.ref q1, .ref (u3 13), .ref (u5 14), .ref (u7 15), .ref (u9 16), .null, .int 0, .int 0, .int 0, .int 0]))] ++ R))))))) H := hP
  have hD : va_D A ([((u11 17), .inr (0, [.int 0, .int 0, .int 0, .int 0, .int 0, .int 0, .int 0, .int 0]))] ++ ([((u9 16), .inr (1, [.ref (u9 12), .int 0])), ((u9 12), .inl (G.2.1 0, 72, .inl (fun _ => 0)))] ++ ([((u7 15), .inr (2, [.ref (u7 10), .ref (u7 11), .int 0, .int 0])), ((u7 10), .inl (G.2.1 0, 10, .inl (fun _ => 0))), ((u7 11), .inl (G.2.1 0, 3, .inl (fun _ => 0)))] ++ ([((u5 14), .inr (8, [.ref (u5 6), .ref (u5 7), .ref (u5 8), .ref (u5 9)])), ((u5 6), .inl (G.2.1 0, 20, .inl (fun j => if j < 20 then (-6 : Int32) else 0))), ((u5 7), .inl (G.2.1 0, 20, .inl (fun _ => 0))), ((u5 8), .inl (G.2.1 0, 20, .inl (fun _ => 0))), ((u5 9), .inl (G.2.1 0, 20, .inl (fun _ => 0)))] ++ ([((u3 13), .inr (3, [.ref (u3 2), .ref (u3 3), .ref (u3 4), .ref (u3 5), .int 0])), ((u3 2), .inl (G.2.1 0, 8, .inl (fun _ => 0))), ((u3 3), .inl (G.2.1 0, 8, .inl (fun _ => 0))), ((u3 4), .inl (G.2.1 0, 8, .inl (fun _ => 0))), ((u3 5), .inl (G.2.1 0, 8, .inl (fun _ => 0)))] ++ ([(q1, .inl (G.2.1 0, 6, .inl (qFs)))] ++ ([(h0, .inr (6, [.ref q1, .ref (u3 13), .ref (u5 14), .ref (u7 15), .ref (u9 16), .null, .int 0, .int 0, .int 0, .int 0]))] ++ R))))))) := hD
  refine W.widen (k := 17) (n := 226) (Nat.le_of_ble_eq_true rfl) (Nat.le_of_ble_eq_true rfl) ?_
  refine va_putF (D := G.1) (ci := 6) (v := .ref (u11 17)) (ty := .object "QuarryBlends$Blend") (C := RX6) (T := TX6) (N := 10) hx hb hts iX6_init_X6 tyX6 tyX6_ok nmX6 hown hKn.k hP hD hS 17 rfl rfl 5 (by decide) (hts _ lX6_init_f54) (fun _ h9 => h9) rfl hin rfl (by decide +kernel) rfl rfl (Nat.le_of_ble_eq_true rfl) dX6_init_69 (fun H locs hP hD hS => ?_)
  have hP : va_P G.1 vwCl ([((u11 17), .inr (0, [.int 0, .int 0, .int 0, .int 0, .int 0, .int 0, .int 0, .int 0]))] ++ ([((u9 16), .inr (1, [.ref (u9 12), .int 0])), ((u9 12), .inl (G.2.1 0, 72, .inl (fun _ => 0)))] ++ ([((u7 15), .inr (2, [.ref (u7 10), .ref (u7 11), .int 0, .int 0])), ((u7 10), .inl (G.2.1 0, 10, .inl (fun _ => 0))), ((u7 11), .inl (G.2.1 0, 3, .inl (fun _ => 0)))] ++ ([((u5 14), .inr (8, [.ref (u5 6), .ref (u5 7), .ref (u5 8), .ref (u5 9)])), ((u5 6), .inl (G.2.1 0, 20, .inl (fun j => if j < 20 then (-6 : Int32) else 0))), ((u5 7), .inl (G.2.1 0, 20, .inl (fun _ => 0))), ((u5 8), .inl (G.2.1 0, 20, .inl (fun _ => 0))), ((u5 9), .inl (G.2.1 0, 20, .inl (fun _ => 0)))] ++ ([((u3 13), .inr (3, [.ref (u3 2), .ref (u3 3), .ref (u3 4), .ref (u3 5), .int 0])), ((u3 2), .inl (G.2.1 0, 8, .inl (fun _ => 0))), ((u3 3), .inl (G.2.1 0, 8, .inl (fun _ => 0))), ((u3 4), .inl (G.2.1 0, 8, .inl (fun _ => 0))), ((u3 5), .inl (G.2.1 0, 8, .inl (fun _ => 0)))] ++ ([(q1, .inl (G.2.1 0, 6, .inl (qFs)))] ++ ([(h0, .inr (6, [.ref q1, .ref (u3 13), .ref (u5 14), .ref (u7 15), .ref (u9 16), .ref (u11 17), .int 0, .int 0, .int 0, .int 0]))] ++ R))))))) H := hP
  have hD : va_D A ([((u11 17), .inr (0, [.int 0, .int 0, .int 0, .int 0, .int 0, .int 0, .int 0, .int 0]))] ++ ([((u9 16), .inr (1, [.ref (u9 12), .int 0])), ((u9 12), .inl (G.2.1 0, 72, .inl (fun _ => 0)))] ++ ([((u7 15), .inr (2, [.ref (u7 10), .ref (u7 11), .int 0, .int 0])), ((u7 10), .inl (G.2.1 0, 10, .inl (fun _ => 0))), ((u7 11), .inl (G.2.1 0, 3, .inl (fun _ => 0)))] ++ ([((u5 14), .inr (8, [.ref (u5 6), .ref (u5 7), .ref (u5 8), .ref (u5 9)])), ((u5 6), .inl (G.2.1 0, 20, .inl (fun j => if j < 20 then (-6 : Int32) else 0))), ((u5 7), .inl (G.2.1 0, 20, .inl (fun _ => 0))), ((u5 8), .inl (G.2.1 0, 20, .inl (fun _ => 0))), ((u5 9), .inl (G.2.1 0, 20, .inl (fun _ => 0)))] ++ ([((u3 13), .inr (3, [.ref (u3 2), .ref (u3 3), .ref (u3 4), .ref (u3 5), .int 0])), ((u3 2), .inl (G.2.1 0, 8, .inl (fun _ => 0))), ((u3 3), .inl (G.2.1 0, 8, .inl (fun _ => 0))), ((u3 4), .inl (G.2.1 0, 8, .inl (fun _ => 0))), ((u3 5), .inl (G.2.1 0, 8, .inl (fun _ => 0)))] ++ ([(q1, .inl (G.2.1 0, 6, .inl (qFs)))] ++ ([(h0, .inr (6, [.ref q1, .ref (u3 13), .ref (u5 14), .ref (u7 15), .ref (u9 16), .ref (u11 17), .int 0, .int 0, .int 0, .int 0]))] ++ R))))))) := hD
  obtain ⟨hP, hD⟩ := q_perm ((((((List.perm_append_comm_assoc _ _ _).trans (((List.perm_append_comm_assoc _ _ _).append_left _).trans (List.perm_append_comm_assoc _ _ _))).trans (((((List.perm_append_comm_assoc _ _ _).append_left _).trans (List.perm_append_comm_assoc _ _ _)).append_left _).trans (List.perm_append_comm_assoc _ _ _))).trans (((((((List.perm_append_comm_assoc _ _ _).append_left _).trans (List.perm_append_comm_assoc _ _ _)).append_left _).trans (List.perm_append_comm_assoc _ _ _)).append_left _).trans (List.perm_append_comm_assoc _ _ _))).trans (((((((((List.perm_append_comm_assoc _ _ _).append_left _).trans (List.perm_append_comm_assoc _ _ _)).append_left _).trans (List.perm_append_comm_assoc _ _ _)).append_left _).trans (List.perm_append_comm_assoc _ _ _)).append_left _).trans (List.perm_append_comm_assoc _ _ _))).trans (((((((((((List.perm_append_comm_assoc _ _ _).append_left _).trans (List.perm_append_comm_assoc _ _ _)).append_left _).trans (List.perm_append_comm_assoc _ _ _)).append_left _).trans (List.perm_append_comm_assoc _ _ _)).append_left _).trans (List.perm_append_comm_assoc _ _ _)).append_left _).trans (List.perm_append_comm_assoc _ _ _))) hP hD
  have hP : va_P G.1 vwCl ([(h0, .inr (6, [.ref q1, .ref (u3 13), .ref (u5 14), .ref (u7 15), .ref (u9 16), .ref (u11 17), .int 0, .int 0, .int 0, .int 0]))] ++ ([(q1, .inl (G.2.1 0, 6, .inl (qFs)))] ++ ([((u3 13), .inr (3, [.ref (u3 2), .ref (u3 3), .ref (u3 4), .ref (u3 5), .int 0])), ((u3 2), .inl (G.2.1 0, 8, .inl (fun _ => 0))), ((u3 3), .inl (G.2.1 0, 8, .inl (fun _ => 0))), ((u3 4), .inl (G.2.1 0, 8, .inl (fun _ => 0))), ((u3 5), .inl (G.2.1 0, 8, .inl (fun _ => 0)))] ++ ([((u5 14), .inr (8, [.ref (u5 6), .ref (u5 7), .ref (u5 8), .ref (u5 9)])), ((u5 6), .inl (G.2.1 0, 20, .inl (fun j => if j < 20 then (-6 : Int32) else 0))), ((u5 7), .inl (G.2.1 0, 20, .inl (fun _ => 0))), ((u5 8), .inl (G.2.1 0, 20, .inl (fun _ => 0))), ((u5 9), .inl (G.2.1 0, 20, .inl (fun _ => 0)))] ++ ([((u7 15), .inr (2, [.ref (u7 10), .ref (u7 11), .int 0, .int 0])), ((u7 10), .inl (G.2.1 0, 10, .inl (fun _ => 0))), ((u7 11), .inl (G.2.1 0, 3, .inl (fun _ => 0)))] ++ ([((u9 16), .inr (1, [.ref (u9 12), .int 0])), ((u9 12), .inl (G.2.1 0, 72, .inl (fun _ => 0)))] ++ ([((u11 17), .inr (0, [.int 0, .int 0, .int 0, .int 0, .int 0, .int 0, .int 0, .int 0]))] ++ R))))))) _ := hP
  have hD : va_D A ([(h0, .inr (6, [.ref q1, .ref (u3 13), .ref (u5 14), .ref (u7 15), .ref (u9 16), .ref (u11 17), .int 0, .int 0, .int 0, .int 0]))] ++ ([(q1, .inl (G.2.1 0, 6, .inl (qFs)))] ++ ([((u3 13), .inr (3, [.ref (u3 2), .ref (u3 3), .ref (u3 4), .ref (u3 5), .int 0])), ((u3 2), .inl (G.2.1 0, 8, .inl (fun _ => 0))), ((u3 3), .inl (G.2.1 0, 8, .inl (fun _ => 0))), ((u3 4), .inl (G.2.1 0, 8, .inl (fun _ => 0))), ((u3 5), .inl (G.2.1 0, 8, .inl (fun _ => 0)))] ++ ([((u5 14), .inr (8, [.ref (u5 6), .ref (u5 7), .ref (u5 8), .ref (u5 9)])), ((u5 6), .inl (G.2.1 0, 20, .inl (fun j => if j < 20 then (-6 : Int32) else 0))), ((u5 7), .inl (G.2.1 0, 20, .inl (fun _ => 0))), ((u5 8), .inl (G.2.1 0, 20, .inl (fun _ => 0))), ((u5 9), .inl (G.2.1 0, 20, .inl (fun _ => 0)))] ++ ([((u7 15), .inr (2, [.ref (u7 10), .ref (u7 11), .int 0, .int 0])), ((u7 10), .inl (G.2.1 0, 10, .inl (fun _ => 0))), ((u7 11), .inl (G.2.1 0, 3, .inl (fun _ => 0)))] ++ ([((u9 16), .inr (1, [.ref (u9 12), .int 0])), ((u9 12), .inl (G.2.1 0, 72, .inl (fun _ => 0)))] ++ ([((u11 17), .inr (0, [.int 0, .int 0, .int 0, .int 0, .int 0, .int 0, .int 0, .int 0]))] ++ R))))))) := hD
  exact W.vret hx hb hr (fun t ht hW => q_rv (post := fun (u : Nat → Nat) => u 0 = h0) (W' := fun (u : Nat → Nat) => wQ G u qI ++ R) (u := ((fun n => (if n = 0 then h0 else (if n = 1 then q1 else (if n = 13 then u3 13 else (if n = 2 then u3 2 else (if n = 3 then u3 3 else (if n = 4 then u3 4 else (if n = 5 then u3 5 else (if n = 14 then u5 14 else (if n = 6 then u5 6 else (if n = 7 then u5 7 else (if n = 8 then u5 8 else (if n = 9 then u5 9 else (if n = 15 then u7 15 else (if n = 10 then u7 10 else (if n = 11 then u7 11 else (if n = 16 then u9 16 else (if n = 12 then u9 12 else (if n = 17 then u11 17 else 0))))))))))))))))))) : Nat → Nat)) hAe rfl hP hD hS ht) hS.2.2 dX6_init_72
