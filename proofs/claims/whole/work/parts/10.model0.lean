abbrev rmX10_in : Room := { frames := 0, cells := 0, slots := 0, locals := 0 }
set_option maxHeartbeats 4000000 in
set_option maxRecDepth 100000 in
theorem kX10_in_b15 {p : Program} {l : Launch} {e : Env} {s : State} {m : MethodId} {args : Array Value} {below : List Frame} {meth : Method} {c : Code} {G : qG} {A : Nat → Prop} {Qf : State → Prop} {R : va_W}  {k : Int32 → Prop} (hx : p.tables.exec = Jvm.exec) (hb : c.code = cX10_in) (hml : c.maxLocals = 3) (hown : s.vm.findClass RX10 = some m.cls) (hts : ∀ w ∈ wsX10_in, w.before args s = true) (hA : ∀ q : Nat, s.heap.size ≤ q → A q) (hKn : qKn G A s s.heap) (hret : ∀ (r : Int32)  (H : Heap) (locs : List Loc) (ls : Array Slot) (pc : Nat), k r  → narrow .boolean (.int r) = .int r → va_P G.1 vwCl (R) H → va_D A (R) → va_S A s.heap H locs → decode cX10_in pc = .ok (.ireturn, 1) → W p l e rmX10_in s m args below meth c H locs 0 0 Qf (F0 m pc ls [.int r])) : ∀  (z0 : Int32) (H : Heap) (locs : List Loc) (ls : Array Slot), wX10_in_b15 k z0 → va_P G.1 vwCl (R) H → va_D A (R) → va_S A s.heap H locs → lv_has ls 3 [] → W p l e rmX10_in s m args below meth c H locs 0 0 Qf (F0 m 15 ls [.int z0]) := by
  intro z0 H locs ls h hP hD hS hl
  unfold wX10_in_b15 at h
  obtain ⟨hn1, h⟩ := h
  exact hret _ _ _ _ _ h hn1 hP hD hS dX10_in_15
set_option maxHeartbeats 4000000 in
set_option maxRecDepth 100000 in
theorem kX10_in_b14 {p : Program} {l : Launch} {e : Env} {s : State} {m : MethodId} {args : Array Value} {below : List Frame} {meth : Method} {c : Code} {G : qG} {A : Nat → Prop} {Qf : State → Prop} {R : va_W}  {k : Int32 → Prop} (hx : p.tables.exec = Jvm.exec) (hb : c.code = cX10_in) (hml : c.maxLocals = 3) (hown : s.vm.findClass RX10 = some m.cls) (hts : ∀ w ∈ wsX10_in, w.before args s = true) (hA : ∀ q : Nat, s.heap.size ≤ q → A q) (hKn : qKn G A s s.heap) (hret : ∀ (r : Int32)  (H : Heap) (locs : List Loc) (ls : Array Slot) (pc : Nat), k r  → narrow .boolean (.int r) = .int r → va_P G.1 vwCl (R) H → va_D A (R) → va_S A s.heap H locs → decode cX10_in pc = .ok (.ireturn, 1) → W p l e rmX10_in s m args below meth c H locs 0 0 Qf (F0 m pc ls [.int r])) : ∀  (H : Heap) (locs : List Loc) (ls : Array Slot), wX10_in_b14 k  → va_P G.1 vwCl (R) H → va_D A (R) → va_S A s.heap H locs → lv_has ls 3 [] → W p l e rmX10_in s m args below meth c H locs 0 0 Qf (F0 m 14 ls []) := by
  intro  H locs ls h hP hD hS hl
  unfold wX10_in_b14 at h
  refine lv_iconst (v := (0 : Int32)) hx hb dX10_in_14 (by decide) ?_
  exact kX10_in_b15 hx hb hml hown hts hA hKn hret (0 : Int32) _ _ _ h hP hD hS (lv_sub hl [] rfl)
set_option maxHeartbeats 4000000 in
set_option maxRecDepth 100000 in
theorem mX10_in (l : Launch) (G : qG) (k : Int32 → Prop) (R : va_W)  (sz : Nat) (p0 : Int32) (p1 : Int32) (p2 : Int32) : Met l yX10_in wsX10_in rmX10_in (qPc G [.int p0, .int p1, .int p2] (R) sz (wX10_in k  p0 p1 p2)) (qQi G (R) sz (fun (r : Int32) (u : Unit) => k r ) (fun (u : Unit) => R)) 0 0 (va_A (R) sz) := by
  refine Met.ofW (cc := cX10_in) (maxL := 3) (ret := (some .boolean)) (by decide) rfl ?_
  intro p e s m args below meth c s₁ B hml hv
  obtain ⟨rfl, hsz, hP, hD0, hKn0, h⟩ := hv
  have hx := B.exec
  have hb := B.bytes
  have hr := B.returns
  have hts := atoms_spec (ws := wsX10_in) B.pre
  have hown : s.vm.findClass RX10 = some m.cls := findClass_of_methodNamed B.named
  have hlocks := B.notSynchronized
  subst hsz
  have hD := hD0.self (sz := s.heap.size)
  generalize hAe : va_A (R) s.heap.size = A at hD hKn0 ⊢
  have hA : ∀ q : Nat, s.heap.size ≤ q → A q := fun q h => by rw [← hAe]; exact Or.inr h
  have hKn : qKn G A s s.heap := hKn0
  have hS : va_S A s.heap s.heap [] := va_S.rf
  have hret : ∀ (r : Int32)  (H : Heap) (locs : List Loc) (ls : Array Slot) (pc : Nat), k r  → narrow .boolean (.int r) = .int r → va_P G.1 vwCl (R) H → va_D A (R) → va_S A s.heap H locs → decode cX10_in pc = .ok (.ireturn, 1) → W p l e rmX10_in s m #[.int p0, .int p1, .int p2] below meth c H locs 0 0 (MQ below (qQi G (R) s.heap.size (fun (r : Int32) (u : Unit) => k r ) (fun (u : Unit) => R)) #[.int p0, .int p1, .int p2] s 0 0 A) (F0 m pc ls [.int r]) := fun r  H locs ls pc hk hn hP hD hS hd => W.zret hx hb hr hn (fun t ht hW => q_ri (u := (() : Unit)) hAe hk hP hD hS ht) hS.2.2 hd
  have hl := lv_entry ([.int p0, .int p1, .int p2]) (n := 3) (Nat.le_of_ble_eq_true rfl)
  rw [lg_entry_eq]
  generalize (lg_sl ([.int p0, .int p1, .int p2]) ++ List.replicate (3 - (lg_sl ([.int p0, .int p1, .int p2])).length) Slot.unset).toArray = ls at hl ⊢
  have hl : lv_has ls 3 [(0, .int p0), (1, .int p1), (2, .int p2)] := hl
  unfold wX10_in at h
  show W p l e rmX10_in s m #[.int p0, .int p1, .int p2] below meth c s.heap [] 0 0 _ _
  refine lv_iload_n hx hb dX10_in_0 rfl (lv_at hl 0 rfl) ?_
  refine lv_iload_n hx hb dX10_in_1 rfl (lv_at hl 1 rfl) ?_
  refine lv_icmp_lt (tgt := 14) hx hb dX10_in_2 (by decide) (fun c1 => ?_) (fun c1 => ?_)
  · have h := h.1 c1
    exact kX10_in_b14 hx hb hml hown hts hA hKn hret  _ _ _ h hP hD hS (lv_sub hl [] rfl)
  · have h := h.2 c1
    refine lv_iload_n hx hb dX10_in_5 rfl (lv_at hl 0 rfl) ?_
    refine lv_iload_n hx hb dX10_in_6 rfl (lv_at hl 2 rfl) ?_
    refine lv_icmp_gt (tgt := 14) hx hb dX10_in_7 (by decide) (fun c1 => ?_) (fun c1 => ?_)
    · have h := h.1 c1
      exact kX10_in_b14 hx hb hml hown hts hA hKn hret  _ _ _ h hP hD hS (lv_sub hl [] rfl)
    · have h := h.2 c1
      refine lv_iconst (v := (1 : Int32)) hx hb dX10_in_10 (by decide) ?_
      refine lv_goto (tgt := 15) hx hb dX10_in_11 (by decide) ?_
      exact kX10_in_b15 hx hb hml hown hts hA hKn hret (1 : Int32) _ _ _ h hP hD hS (lv_sub hl [] rfl)
abbrev rmX10_faceOf : Room := { frames := 0, cells := 0, slots := 0, locals := 0 }
theorem lX10_faceOf_f7 : Cond.fieldLink RX10 7 "QuarryBlendsModel" "s" "[I" ∈ wsX10_faceOf := by decide +kernel
theorem iX10_faceOf_X10 : ∀ w ∈ wsX100, w ∈ wsX10_faceOf := by decide +kernel
set_option maxHeartbeats 4000000 in
set_option maxRecDepth 100000 in
theorem mX10_faceOf (l : Launch) (G : qG) (k : Int32 → qS → Prop) (R : va_W) (a : Nat → Nat) (q : qS) (sz : Nat) (p0 : Int32) (p1 : Int32) : Met l yX10_faceOf wsX10_faceOf rmX10_faceOf (qPc G [.ref (a 0), .int p0, .int p1] (wM G a q ++ R) sz (wX10_faceOf k q p0 p1)) (qQi G (wM G a q ++ R) sz (fun (r : Int32) (u : qS) => k r u) (fun (u : qS) => wM G a u ++ R)) 0 0 (va_A (wM G a q ++ R) sz) := by
  refine Met.ofW (cc := cX10_faceOf) (maxL := 3) (ret := (some .int)) (by decide) rfl ?_
  intro p e s m args below meth c s₁ B hml hv
  obtain ⟨rfl, hsz, hP, hD0, hKn0, h⟩ := hv
  have hx := B.exec
  have hb := B.bytes
  have hr := B.returns
  have hts := atoms_spec (ws := wsX10_faceOf) B.pre
  have hown : s.vm.findClass RX10 = some m.cls := findClass_of_methodNamed B.named
  have hlocks := B.notSynchronized
  subst hsz
  have hD := hD0.self (sz := s.heap.size)
  generalize hAe : va_A (wM G a q ++ R) s.heap.size = A at hD hKn0 ⊢
  have hA : ∀ q : Nat, s.heap.size ≤ q → A q := fun q h => by rw [← hAe]; exact Or.inr h
  have hKn : qKn G A s s.heap := hKn0
  have hS : va_S A s.heap s.heap [] := va_S.rf
  have hret : ∀ (r : Int32) (q' : qS) (H : Heap) (locs : List Loc) (ls : Array Slot) (pc : Nat), k r q' → va_P G.1 vwCl (wM G a q' ++ R) H → va_D A (wM G a q' ++ R) → va_S A s.heap H locs → decode cX10_faceOf pc = .ok (.ireturn, 1) → W p l e rmX10_faceOf s m #[.ref (a 0), .int p0, .int p1] below meth c H locs 0 0 (MQ below (qQi G (wM G a q ++ R) s.heap.size (fun (r : Int32) (u : qS) => k r u) (fun (u : qS) => wM G a u ++ R)) #[.ref (a 0), .int p0, .int p1] s 0 0 A) (F0 m pc ls [.int r]) := fun r q' H locs ls pc hk hP hD hS hd => W.iret hx hb hr (fun t ht hW => q_ri (u := (q' : qS)) hAe hk hP hD hS ht) hS.2.2 hd
  have hl := lv_entry ([.ref (a 0), .int p0, .int p1]) (n := 3) (Nat.le_of_ble_eq_true rfl)
  rw [lg_entry_eq]
  generalize (lg_sl ([.ref (a 0), .int p0, .int p1]) ++ List.replicate (3 - (lg_sl ([.ref (a 0), .int p0, .int p1])).length) Slot.unset).toArray = ls at hl ⊢
  have hl : lv_has ls 3 [(0, .ref (a 0)), (1, .int p0), (2, .int p1)] := hl
  unfold wX10_faceOf at h
  show W p l e rmX10_faceOf s m #[.ref (a 0), .int p0, .int p1] below meth c s.heap [] 0 0 _ _
  refine lv_aload_n hx hb dX10_faceOf_0 rfl (lv_at hl 0 rfl) ?_
  refine va_get (D := G.1) (ci := 10) (v := .ref (a 1)) (C := RX10) (T := TX10) (N := 15) hx hb hts iX10_faceOf_X10 hown hKn.k hP 0 rfl rfl 1 (by decide) (hts _ lX10_faceOf_f7) (fun _ h9 => h9) rfl dX10_faceOf_1 ?_
  refine lv_bipush (v := (26 : Int32)) hx hb dX10_faceOf_4 (by decide) ?_
  refine lv_iconst (v := (4 : Int32)) hx hb dX10_faceOf_6 (by decide) ?_
  refine lv_iload_n hx hb dX10_faceOf_7 rfl (lv_at hl 1 rfl) ?_
  refine lv_imul hx hb dX10_faceOf_8 ?_
  refine lv_iadd hx hb dX10_faceOf_9 ?_
  refine lv_iload_n hx hb dX10_faceOf_10 rfl (lv_at hl 2 rfl) ?_
  refine lv_iadd hx hb dX10_faceOf_11 ?_
  obtain ⟨hin, h⟩ := h
  refine va_iald hx hb hKn.k hP 1 0 rfl rfl hin dX10_faceOf_12 ?_
  exact hret _ _ _ _ _ _ h hP hD hS dX10_faceOf_13
abbrev rmX10_truckOf : Room := { frames := 0, cells := 0, slots := 0, locals := 0 }
theorem lX10_truckOf_f7 : Cond.fieldLink RX10 7 "QuarryBlendsModel" "s" "[I" ∈ wsX10_truckOf := by decide +kernel
theorem iX10_truckOf_X10 : ∀ w ∈ wsX100, w ∈ wsX10_truckOf := by decide +kernel
set_option maxHeartbeats 4000000 in
set_option maxRecDepth 100000 in
theorem mX10_truckOf (l : Launch) (G : qG) (k : Int32 → qS → Prop) (R : va_W) (a : Nat → Nat) (q : qS) (sz : Nat) (p0 : Int32) (p1 : Int32) : Met l yX10_truckOf wsX10_truckOf rmX10_truckOf (qPc G [.ref (a 0), .int p0, .int p1] (wM G a q ++ R) sz (wX10_truckOf k q p0 p1)) (qQi G (wM G a q ++ R) sz (fun (r : Int32) (u : qS) => k r u) (fun (u : qS) => wM G a u ++ R)) 0 0 (va_A (wM G a q ++ R) sz) := by
  refine Met.ofW (cc := cX10_truckOf) (maxL := 3) (ret := (some .int)) (by decide) rfl ?_
  intro p e s m args below meth c s₁ B hml hv
  obtain ⟨rfl, hsz, hP, hD0, hKn0, h⟩ := hv
  have hx := B.exec
  have hb := B.bytes
  have hr := B.returns
  have hts := atoms_spec (ws := wsX10_truckOf) B.pre
  have hown : s.vm.findClass RX10 = some m.cls := findClass_of_methodNamed B.named
  have hlocks := B.notSynchronized
  subst hsz
  have hD := hD0.self (sz := s.heap.size)
  generalize hAe : va_A (wM G a q ++ R) s.heap.size = A at hD hKn0 ⊢
  have hA : ∀ q : Nat, s.heap.size ≤ q → A q := fun q h => by rw [← hAe]; exact Or.inr h
  have hKn : qKn G A s s.heap := hKn0
  have hS : va_S A s.heap s.heap [] := va_S.rf
  have hret : ∀ (r : Int32) (q' : qS) (H : Heap) (locs : List Loc) (ls : Array Slot) (pc : Nat), k r q' → va_P G.1 vwCl (wM G a q' ++ R) H → va_D A (wM G a q' ++ R) → va_S A s.heap H locs → decode cX10_truckOf pc = .ok (.ireturn, 1) → W p l e rmX10_truckOf s m #[.ref (a 0), .int p0, .int p1] below meth c H locs 0 0 (MQ below (qQi G (wM G a q ++ R) s.heap.size (fun (r : Int32) (u : qS) => k r u) (fun (u : qS) => wM G a u ++ R)) #[.ref (a 0), .int p0, .int p1] s 0 0 A) (F0 m pc ls [.int r]) := fun r q' H locs ls pc hk hP hD hS hd => W.iret hx hb hr (fun t ht hW => q_ri (u := (q' : qS)) hAe hk hP hD hS ht) hS.2.2 hd
  have hl := lv_entry ([.ref (a 0), .int p0, .int p1]) (n := 3) (Nat.le_of_ble_eq_true rfl)
  rw [lg_entry_eq]
  generalize (lg_sl ([.ref (a 0), .int p0, .int p1]) ++ List.replicate (3 - (lg_sl ([.ref (a 0), .int p0, .int p1])).length) Slot.unset).toArray = ls at hl ⊢
  have hl : lv_has ls 3 [(0, .ref (a 0)), (1, .int p0), (2, .int p1)] := hl
  unfold wX10_truckOf at h
  show W p l e rmX10_truckOf s m #[.ref (a 0), .int p0, .int p1] below meth c s.heap [] 0 0 _ _
  refine lv_aload_n hx hb dX10_truckOf_0 rfl (lv_at hl 0 rfl) ?_
  refine va_get (D := G.1) (ci := 10) (v := .ref (a 1)) (C := RX10) (T := TX10) (N := 15) hx hb hts iX10_truckOf_X10 hown hKn.k hP 0 rfl rfl 1 (by decide) (hts _ lX10_truckOf_f7) (fun _ h9 => h9) rfl dX10_truckOf_1 ?_
  refine lv_bipush (v := (58 : Int32)) hx hb dX10_truckOf_4 (by decide) ?_
  refine lv_iconst (v := (4 : Int32)) hx hb dX10_truckOf_6 (by decide) ?_
  refine lv_iload_n hx hb dX10_truckOf_7 rfl (lv_at hl 1 rfl) ?_
  refine lv_imul hx hb dX10_truckOf_8 ?_
  refine lv_iadd hx hb dX10_truckOf_9 ?_
  refine lv_iload_n hx hb dX10_truckOf_10 rfl (lv_at hl 2 rfl) ?_
  refine lv_iadd hx hb dX10_truckOf_11 ?_
  obtain ⟨hin, h⟩ := h
  refine va_iald hx hb hKn.k hP 1 0 rfl rfl hin dX10_truckOf_12 ?_
  exact hret _ _ _ _ _ _ h hP hD hS dX10_truckOf_13
abbrev rmX10_asks : Room := { frames := 0, cells := 0, slots := 0, locals := 0 }
theorem lX10_asks_f7 : Cond.fieldLink RX10 7 "QuarryBlendsModel" "s" "[I" ∈ wsX10_asks := by decide +kernel
theorem iX10_asks_X10 : ∀ w ∈ wsX100, w ∈ wsX10_asks := by decide +kernel
set_option maxHeartbeats 4000000 in
set_option maxRecDepth 100000 in
theorem mX10_asks (l : Launch) (G : qG) (k : Int32 → qS → Prop) (R : va_W) (a : Nat → Nat) (q : qS) (sz : Nat) (p0 : Int32) (p1 : Int32) : Met l yX10_asks wsX10_asks rmX10_asks (qPc G [.ref (a 0), .int p0, .int p1] (wM G a q ++ R) sz (wX10_asks k q p0 p1)) (qQi G (wM G a q ++ R) sz (fun (r : Int32) (u : qS) => k r u) (fun (u : qS) => wM G a u ++ R)) 0 0 (va_A (wM G a q ++ R) sz) := by
  refine Met.ofW (cc := cX10_asks) (maxL := 3) (ret := (some .int)) (by decide) rfl ?_
  intro p e s m args below meth c s₁ B hml hv
  obtain ⟨rfl, hsz, hP, hD0, hKn0, h⟩ := hv
  have hx := B.exec
  have hb := B.bytes
  have hr := B.returns
  have hts := atoms_spec (ws := wsX10_asks) B.pre
  have hown : s.vm.findClass RX10 = some m.cls := findClass_of_methodNamed B.named
  have hlocks := B.notSynchronized
  subst hsz
  have hD := hD0.self (sz := s.heap.size)
  generalize hAe : va_A (wM G a q ++ R) s.heap.size = A at hD hKn0 ⊢
  have hA : ∀ q : Nat, s.heap.size ≤ q → A q := fun q h => by rw [← hAe]; exact Or.inr h
  have hKn : qKn G A s s.heap := hKn0
  have hS : va_S A s.heap s.heap [] := va_S.rf
  have hret : ∀ (r : Int32) (q' : qS) (H : Heap) (locs : List Loc) (ls : Array Slot) (pc : Nat), k r q' → va_P G.1 vwCl (wM G a q' ++ R) H → va_D A (wM G a q' ++ R) → va_S A s.heap H locs → decode cX10_asks pc = .ok (.ireturn, 1) → W p l e rmX10_asks s m #[.ref (a 0), .int p0, .int p1] below meth c H locs 0 0 (MQ below (qQi G (wM G a q ++ R) s.heap.size (fun (r : Int32) (u : qS) => k r u) (fun (u : qS) => wM G a u ++ R)) #[.ref (a 0), .int p0, .int p1] s 0 0 A) (F0 m pc ls [.int r]) := fun r q' H locs ls pc hk hP hD hS hd => W.iret hx hb hr (fun t ht hW => q_ri (u := (q' : qS)) hAe hk hP hD hS ht) hS.2.2 hd
  have hl := lv_entry ([.ref (a 0), .int p0, .int p1]) (n := 3) (Nat.le_of_ble_eq_true rfl)
  rw [lg_entry_eq]
  generalize (lg_sl ([.ref (a 0), .int p0, .int p1]) ++ List.replicate (3 - (lg_sl ([.ref (a 0), .int p0, .int p1])).length) Slot.unset).toArray = ls at hl ⊢
  have hl : lv_has ls 3 [(0, .ref (a 0)), (1, .int p0), (2, .int p1)] := hl
  unfold wX10_asks at h
  show W p l e rmX10_asks s m #[.ref (a 0), .int p0, .int p1] below meth c s.heap [] 0 0 _ _
  refine lv_aload_n hx hb dX10_asks_0 rfl (lv_at hl 0 rfl) ?_
  refine va_get (D := G.1) (ci := 10) (v := .ref (a 1)) (C := RX10) (T := TX10) (N := 15) hx hb hts iX10_asks_X10 hown hKn.k hP 0 rfl rfl 1 (by decide) (hts _ lX10_asks_f7) (fun _ h9 => h9) rfl dX10_asks_1 ?_
  refine lv_sipush (v := (138 : Int32)) hx hb dX10_asks_4 (by decide) ?_
  refine lv_bipush (v := (6 : Int32)) hx hb dX10_asks_7 (by decide) ?_
  refine lv_iload_n hx hb dX10_asks_9 rfl (lv_at hl 1 rfl) ?_
  refine lv_imul hx hb dX10_asks_10 ?_
  refine lv_iadd hx hb dX10_asks_11 ?_
  refine lv_iload_n hx hb dX10_asks_12 rfl (lv_at hl 2 rfl) ?_
  refine lv_iadd hx hb dX10_asks_13 ?_
  obtain ⟨hin, h⟩ := h
  refine va_iald hx hb hKn.k hP 1 0 rfl rfl hin dX10_asks_14 ?_
  exact hret _ _ _ _ _ _ h hP hD hS dX10_asks_15
abbrev rmX10_records : Room := { frames := 0, cells := 0, slots := 0, locals := 0 }
theorem lX10_records_f16 : Cond.fieldLink RX10 16 "QuarryBlendsModel" "undos" "[I" ∈ wsX10_records := by decide +kernel
theorem lX10_records_f36 : Cond.fieldLink RX10 36 "QuarryBlendsModel" "undoMany" "I" ∈ wsX10_records := by decide +kernel
theorem lX10_records_f7 : Cond.fieldLink RX10 7 "QuarryBlendsModel" "s" "[I" ∈ wsX10_records := by decide +kernel
theorem iX10_records_X10 : ∀ w ∈ wsX100, w ∈ wsX10_records := by decide +kernel
set_option maxHeartbeats 4000000 in
set_option maxRecDepth 100000 in
theorem kX10_records_b52 {p : Program} {l : Launch} {e : Env} {s : State} {m : MethodId} {args : Array Value} {below : List Frame} {meth : Method} {c : Code} {G : qG} {A : Nat → Prop} {Qf : State → Prop} {R : va_W} {a : Nat → Nat} {k : qS → Prop} (hx : p.tables.exec = Jvm.exec) (hb : c.code = cX10_records) (hml : c.maxLocals = 2) (hown : s.vm.findClass RX10 = some m.cls) (hts : ∀ w ∈ wsX10_records, w.before args s = true) (hA : ∀ q : Nat, s.heap.size ≤ q → A q) (hKn : qKn G A s s.heap) (hret : ∀ (q : qS) (H : Heap) (locs : List Loc) (ls : Array Slot) (pc : Nat), k q → va_P G.1 vwCl (wM G a q ++ R) H → va_D A (wM G a q ++ R) → va_S A s.heap H locs → decode cX10_records pc = .ok (.return_, 1) → W p l e rmX10_records s m args below meth c H locs 0 0 Qf (F0 m pc ls [])) : ∀ (n : Nat) (q : qS) (x1 : Int32) (H : Heap) (locs : List Loc) (ls : Array Slot), wX10_records_b52 k n q x1 → va_P G.1 vwCl (wM G a q ++ R) H → va_D A (wM G a q ++ R) → va_S A s.heap H locs → lv_has ls 2 [(0, .ref (a 0)), (1, .int x1)] → W p l e rmX10_records s m args below meth c H locs 0 0 Qf (F0 m 52 ls []) := by
  intro n
  induction n with
  | zero => intros; rename_i h _ _ _ _; exact h.elim
  | succ n ih =>
    intro q x1 H locs ls h hP hD hS hl
    unfold wX10_records_b52 at h
    refine lv_iload_n hx hb dX10_records_52 rfl (lv_at hl 1 rfl) ?_
    refine lv_sipush (v := (210 : Int32)) hx hb dX10_records_53 (by decide) ?_
    refine lv_icmp_ge (tgt := 86) hx hb dX10_records_56 (by decide) (fun c1 => ?_) (fun c1 => ?_)
    · have h := h.1 c1
      refine lv_aload_n hx hb dX10_records_86 rfl (lv_at hl 0 rfl) ?_
      refine lv_dup hx hb dX10_records_87 rfl ?_
      refine va_get (D := G.1) (ci := 10) (v := .int (q 0 4)) (C := RX10) (T := TX10) (N := 15) hx hb hts iX10_records_X10 hown hKn.k hP 0 rfl rfl 4 (by decide) (hts _ lX10_records_f36) (fun _ h9 => h9) rfl dX10_records_88 ?_
      refine lv_iconst (v := (1 : Int32)) hx hb dX10_records_91 (by decide) ?_
      refine lv_iadd hx hb dX10_records_92 ?_
      refine lv_topi (fun y1 ey1 => ?_)
      have h := h y1 ey1
      refine va_put (D := G.1) (ci := 10) (v := .int y1) (ty := .int) (C := RX10) (T := TX10) (N := 15) hx hb hts iX10_records_X10 tyX10 tyX10_ok nmX10 hown hKn.k hP hD hS 0 rfl rfl 4 (by decide) (hts _ lX10_records_f36) (fun _ h9 => h9) rfl (by decide +kernel) rfl rfl (Nat.le_of_ble_eq_true rfl) dX10_records_93 (fun H locs hP hD hS => ?_)
      obtain ⟨q2, eq2⟩ : ∃ z : qS, z = up2 q 0 4 y1 := ⟨_, rfl⟩
      have hP : va_P G.1 vwCl (wM G a q2 ++ R) H := by rw [eq2]; exact hP
      have hD : va_D A (wM G a q2 ++ R) := by rw [eq2]; exact hD
      have h := h q2 eq2
      exact hret _ _ _ _ _ h hP hD hS dX10_records_96
    · have h := h.2 c1
      refine lv_aload_n hx hb dX10_records_59 rfl (lv_at hl 0 rfl) ?_
      refine va_get (D := G.1) (ci := 10) (v := .ref (a 3)) (C := RX10) (T := TX10) (N := 15) hx hb hts iX10_records_X10 hown hKn.k hP 0 rfl rfl 3 (by decide) (hts _ lX10_records_f16) (fun _ h9 => h9) rfl dX10_records_60 ?_
      refine lv_sipush (v := (210 : Int32)) hx hb dX10_records_63 (by decide) ?_
      refine lv_aload_n hx hb dX10_records_66 rfl (lv_at hl 0 rfl) ?_
      refine va_get (D := G.1) (ci := 10) (v := .int (q 0 4)) (C := RX10) (T := TX10) (N := 15) hx hb hts iX10_records_X10 hown hKn.k hP 0 rfl rfl 4 (by decide) (hts _ lX10_records_f36) (fun _ h9 => h9) rfl dX10_records_67 ?_
      refine lv_imul hx hb dX10_records_70 ?_
      refine lv_iload_n hx hb dX10_records_71 rfl (lv_at hl 1 rfl) ?_
      refine lv_iadd hx hb dX10_records_72 ?_
      refine lv_aload_n hx hb dX10_records_73 rfl (lv_at hl 0 rfl) ?_
      refine va_get (D := G.1) (ci := 10) (v := .ref (a 1)) (C := RX10) (T := TX10) (N := 15) hx hb hts iX10_records_X10 hown hKn.k hP 0 rfl rfl 1 (by decide) (hts _ lX10_records_f7) (fun _ h9 => h9) rfl dX10_records_74 ?_
      refine lv_iload_n hx hb dX10_records_77 rfl (lv_at hl 1 rfl) ?_
      obtain ⟨hin, h⟩ := h
      refine va_iald hx hb hKn.k hP 1 0 rfl rfl hin dX10_records_78 ?_
      refine lv_topi (fun y3 ey3 => ?_)
      have h := h y3 ey3
      obtain ⟨hin, h⟩ := h
      refine va_iast hx hb hKn.k hP hD hS 3 0 rfl rfl hin dX10_records_79 (fun H locs hP hD hS => ?_)
      obtain ⟨q4, eq4⟩ : ∃ z : qS, z = up2 q 3 (Int32.toNatClampNeg (((210 : Int32) * (q 0 4)) + x1)) y3 := ⟨_, rfl⟩
      have hP : va_P G.1 vwCl (wM G a q4 ++ R) H := by rw [eq4]; exact hP
      have hD : va_D A (wM G a q4 ++ R) := by rw [eq4]; exact hD
      have h := h q4 eq4
      obtain ⟨y5, ey5⟩ : ∃ z : Int32, z = x1 + (1 : Int32) := ⟨_, rfl⟩
      have h := h y5 ey5
      refine lv_iinc (v := y5) (lv' := [(1, .int y5), (0, .ref (a 0))]) hx hb dX10_records_80 hl (k := 1) rfl (by rw [ey5]; rfl) (by decide) rfl (fun ls hl => ?_)
      refine lv_goto (tgt := 52) hx hb dX10_records_83 (by decide) ?_
      exact ih q4 y5 _ _ _ h hP hD hS (lv_sub hl [1, 0] rfl)
set_option maxHeartbeats 4000000 in
set_option maxRecDepth 100000 in
theorem kX10_records_b50 {p : Program} {l : Launch} {e : Env} {s : State} {m : MethodId} {args : Array Value} {below : List Frame} {meth : Method} {c : Code} {G : qG} {A : Nat → Prop} {Qf : State → Prop} {R : va_W} {a : Nat → Nat} {k : qS → Prop} (hx : p.tables.exec = Jvm.exec) (hb : c.code = cX10_records) (hml : c.maxLocals = 2) (hown : s.vm.findClass RX10 = some m.cls) (hts : ∀ w ∈ wsX10_records, w.before args s = true) (hA : ∀ q : Nat, s.heap.size ≤ q → A q) (hKn : qKn G A s s.heap) (hret : ∀ (q : qS) (H : Heap) (locs : List Loc) (ls : Array Slot) (pc : Nat), k q → va_P G.1 vwCl (wM G a q ++ R) H → va_D A (wM G a q ++ R) → va_S A s.heap H locs → decode cX10_records pc = .ok (.return_, 1) → W p l e rmX10_records s m args below meth c H locs 0 0 Qf (F0 m pc ls [])) : ∀ (q : qS) (H : Heap) (locs : List Loc) (ls : Array Slot), wX10_records_b50 k q → va_P G.1 vwCl (wM G a q ++ R) H → va_D A (wM G a q ++ R) → va_S A s.heap H locs → lv_has ls 2 [(0, .ref (a 0))] → W p l e rmX10_records s m args below meth c H locs 0 0 Qf (F0 m 50 ls []) := by
  intro q H locs ls h hP hD hS hl
  unfold wX10_records_b50 at h
  refine lv_iconst (v := (0 : Int32)) hx hb dX10_records_50 (by decide) ?_
  refine lv_istore_n (lv' := [(1, .int (0 : Int32)), (0, .ref (a 0))]) hx hb dX10_records_51 rfl hl (by decide) rfl (fun ls hl => ?_)
  obtain ⟨n6, h⟩ := h
  exact kX10_records_b52 hx hb hml hown hts hA hKn hret n6 q (0 : Int32) _ _ _ h hP hD hS (lv_sub hl [1, 0] rfl)
set_option maxHeartbeats 4000000 in
set_option maxRecDepth 100000 in
theorem kX10_records_b11 {p : Program} {l : Launch} {e : Env} {s : State} {m : MethodId} {args : Array Value} {below : List Frame} {meth : Method} {c : Code} {G : qG} {A : Nat → Prop} {Qf : State → Prop} {R : va_W} {a : Nat → Nat} {k : qS → Prop} (hx : p.tables.exec = Jvm.exec) (hb : c.code = cX10_records) (hml : c.maxLocals = 2) (hown : s.vm.findClass RX10 = some m.cls) (hts : ∀ w ∈ wsX10_records, w.before args s = true) (hA : ∀ q : Nat, s.heap.size ≤ q → A q) (hKn : qKn G A s s.heap) (hret : ∀ (q : qS) (H : Heap) (locs : List Loc) (ls : Array Slot) (pc : Nat), k q → va_P G.1 vwCl (wM G a q ++ R) H → va_D A (wM G a q ++ R) → va_S A s.heap H locs → decode cX10_records pc = .ok (.return_, 1) → W p l e rmX10_records s m args below meth c H locs 0 0 Qf (F0 m pc ls [])) : ∀ (n : Nat) (q : qS) (x1 : Int32) (H : Heap) (locs : List Loc) (ls : Array Slot), wX10_records_b11 k n q x1 → va_P G.1 vwCl (wM G a q ++ R) H → va_D A (wM G a q ++ R) → va_S A s.heap H locs → lv_has ls 2 [(0, .ref (a 0)), (1, .int x1)] → W p l e rmX10_records s m args below meth c H locs 0 0 Qf (F0 m 11 ls []) := by
  intro n
  induction n with
  | zero => intros; rename_i h _ _ _ _; exact h.elim
  | succ n ih =>
    intro q x1 H locs ls h hP hD hS hl
    unfold wX10_records_b11 at h
    refine lv_iload_n hx hb dX10_records_11 rfl (lv_at hl 1 rfl) ?_
    refine lv_sipush (v := (1050 : Int32)) hx hb dX10_records_12 (by decide) ?_
    refine lv_icmp_ge (tgt := 40) hx hb dX10_records_15 (by decide) (fun c1 => ?_) (fun c1 => ?_)
    · have h := h.1 c1
      refine lv_aload_n hx hb dX10_records_40 rfl (lv_at hl 0 rfl) ?_
      refine lv_dup hx hb dX10_records_41 rfl ?_
      refine va_get (D := G.1) (ci := 10) (v := .int (q 0 4)) (C := RX10) (T := TX10) (N := 15) hx hb hts iX10_records_X10 hown hKn.k hP 0 rfl rfl 4 (by decide) (hts _ lX10_records_f36) (fun _ h9 => h9) rfl dX10_records_42 ?_
      refine lv_iconst (v := (1 : Int32)) hx hb dX10_records_45 (by decide) ?_
      refine lv_isub hx hb dX10_records_46 ?_
      refine lv_topi (fun y7 ey7 => ?_)
      have h := h y7 ey7
      refine va_put (D := G.1) (ci := 10) (v := .int y7) (ty := .int) (C := RX10) (T := TX10) (N := 15) hx hb hts iX10_records_X10 tyX10 tyX10_ok nmX10 hown hKn.k hP hD hS 0 rfl rfl 4 (by decide) (hts _ lX10_records_f36) (fun _ h9 => h9) rfl (by decide +kernel) rfl rfl (Nat.le_of_ble_eq_true rfl) dX10_records_47 (fun H locs hP hD hS => ?_)
      obtain ⟨q8, eq8⟩ : ∃ z : qS, z = up2 q 0 4 y7 := ⟨_, rfl⟩
      have hP : va_P G.1 vwCl (wM G a q8 ++ R) H := by rw [eq8]; exact hP
      have hD : va_D A (wM G a q8 ++ R) := by rw [eq8]; exact hD
      have h := h q8 eq8
      exact kX10_records_b50 hx hb hml hown hts hA hKn hret q8 _ _ _ h hP hD hS (lv_sub hl [0] rfl)
    · have h := h.2 c1
      refine lv_aload_n hx hb dX10_records_18 rfl (lv_at hl 0 rfl) ?_
      refine va_get (D := G.1) (ci := 10) (v := .ref (a 3)) (C := RX10) (T := TX10) (N := 15) hx hb hts iX10_records_X10 hown hKn.k hP 0 rfl rfl 3 (by decide) (hts _ lX10_records_f16) (fun _ h9 => h9) rfl dX10_records_19 ?_
      refine lv_iload_n hx hb dX10_records_22 rfl (lv_at hl 1 rfl) ?_
      refine lv_aload_n hx hb dX10_records_23 rfl (lv_at hl 0 rfl) ?_
      refine va_get (D := G.1) (ci := 10) (v := .ref (a 3)) (C := RX10) (T := TX10) (N := 15) hx hb hts iX10_records_X10 hown hKn.k hP 0 rfl rfl 3 (by decide) (hts _ lX10_records_f16) (fun _ h9 => h9) rfl dX10_records_24 ?_
      refine lv_iload_n hx hb dX10_records_27 rfl (lv_at hl 1 rfl) ?_
      refine lv_sipush (v := (210 : Int32)) hx hb dX10_records_28 (by decide) ?_
      refine lv_iadd hx hb dX10_records_31 ?_
      obtain ⟨hin, h⟩ := h
      refine va_iald hx hb hKn.k hP 3 0 rfl rfl hin dX10_records_32 ?_
      refine lv_topi (fun y9 ey9 => ?_)
      have h := h y9 ey9
      obtain ⟨hin, h⟩ := h
      refine va_iast hx hb hKn.k hP hD hS 3 0 rfl rfl hin dX10_records_33 (fun H locs hP hD hS => ?_)
      obtain ⟨q10, eq10⟩ : ∃ z : qS, z = up2 q 3 (Int32.toNatClampNeg x1) y9 := ⟨_, rfl⟩
      have hP : va_P G.1 vwCl (wM G a q10 ++ R) H := by rw [eq10]; exact hP
      have hD : va_D A (wM G a q10 ++ R) := by rw [eq10]; exact hD
      have h := h q10 eq10
      obtain ⟨y11, ey11⟩ : ∃ z : Int32, z = x1 + (1 : Int32) := ⟨_, rfl⟩
      have h := h y11 ey11
      refine lv_iinc (v := y11) (lv' := [(1, .int y11), (0, .ref (a 0))]) hx hb dX10_records_34 hl (k := 1) rfl (by rw [ey11]; rfl) (by decide) rfl (fun ls hl => ?_)
      refine lv_goto (tgt := 11) hx hb dX10_records_37 (by decide) ?_
      exact ih q10 y11 _ _ _ h hP hD hS (lv_sub hl [1, 0] rfl)
set_option maxHeartbeats 4000000 in
set_option maxRecDepth 100000 in
theorem mX10_records (l : Launch) (G : qG) (k : qS → Prop) (R : va_W) (a : Nat → Nat) (q : qS) (sz : Nat) : Met l yX10_records wsX10_records rmX10_records (qPc G [.ref (a 0)] (wM G a q ++ R) sz (wX10_records k q)) (qQv G (wM G a q ++ R) sz (fun (u : qS) => k u) (fun (u : qS) => wM G a u ++ R)) 0 0 (va_A (wM G a q ++ R) sz) := by
  refine Met.ofW (cc := cX10_records) (maxL := 2) (ret := none) (by decide) rfl ?_
  intro p e s m args below meth c s₁ B hml hv
  obtain ⟨rfl, hsz, hP, hD0, hKn0, h⟩ := hv
  have hx := B.exec
  have hb := B.bytes
  have hr := B.returns
  have hts := atoms_spec (ws := wsX10_records) B.pre
  have hown : s.vm.findClass RX10 = some m.cls := findClass_of_methodNamed B.named
  have hlocks := B.notSynchronized
  subst hsz
  have hD := hD0.self (sz := s.heap.size)
  generalize hAe : va_A (wM G a q ++ R) s.heap.size = A at hD hKn0 ⊢
  have hA : ∀ q : Nat, s.heap.size ≤ q → A q := fun q h => by rw [← hAe]; exact Or.inr h
  have hKn : qKn G A s s.heap := hKn0
  have hS : va_S A s.heap s.heap [] := va_S.rf
  have hret : ∀ (q' : qS) (H : Heap) (locs : List Loc) (ls : Array Slot) (pc : Nat), k q' → va_P G.1 vwCl (wM G a q' ++ R) H → va_D A (wM G a q' ++ R) → va_S A s.heap H locs → decode cX10_records pc = .ok (.return_, 1) → W p l e rmX10_records s m #[.ref (a 0)] below meth c H locs 0 0 (MQ below (qQv G (wM G a q ++ R) s.heap.size (fun (u : qS) => k u) (fun (u : qS) => wM G a u ++ R)) #[.ref (a 0)] s 0 0 A) (F0 m pc ls []) := fun q' H locs ls pc hk hP hD hS hd => W.vret hx hb hr (fun t ht hW => q_rv (u := (q' : qS)) hAe hk hP hD hS ht) hS.2.2 hd
  have hl := lv_entry ([.ref (a 0)]) (n := 2) (Nat.le_of_ble_eq_true rfl)
  rw [lg_entry_eq]
  generalize (lg_sl ([.ref (a 0)]) ++ List.replicate (2 - (lg_sl ([.ref (a 0)])).length) Slot.unset).toArray = ls at hl ⊢
  have hl : lv_has ls 2 [(0, .ref (a 0))] := hl
  unfold wX10_records at h
  show W p l e rmX10_records s m #[.ref (a 0)] below meth c s.heap [] 0 0 _ _
  refine lv_aload_n hx hb dX10_records_0 rfl (lv_at hl 0 rfl) ?_
  refine va_get (D := G.1) (ci := 10) (v := .int (q 0 4)) (C := RX10) (T := TX10) (N := 15) hx hb hts iX10_records_X10 hown hKn.k hP 0 rfl rfl 4 (by decide) (hts _ lX10_records_f36) (fun _ h9 => h9) rfl dX10_records_1 ?_
  refine lv_bipush (v := (6 : Int32)) hx hb dX10_records_4 (by decide) ?_
  refine lv_icmp_ne (tgt := 50) hx hb dX10_records_6 (by decide) (fun c1 => ?_) (fun c1 => ?_)
  · have h := h.1 c1
    exact kX10_records_b50 hx hb hml hown hts hA hKn hret q _ _ _ h hP hD hS (lv_sub hl [0] rfl)
  · have h := h.2 c1
    refine lv_iconst (v := (0 : Int32)) hx hb dX10_records_9 (by decide) ?_
    refine lv_istore_n (lv' := [(1, .int (0 : Int32)), (0, .ref (a 0))]) hx hb dX10_records_10 rfl hl (by decide) rfl (fun ls hl => ?_)
    obtain ⟨n12, h⟩ := h
    exact kX10_records_b11 hx hb hml hown hts hA hKn hret n12 q (0 : Int32) _ _ _ h hP hD hS (lv_sub hl [1, 0] rfl)
abbrev rmX10_putAside : Room := { frames := 0, cells := 0, slots := 0, locals := 0 }
theorem lX10_putAside_f13 : Cond.fieldLink RX10 13 "QuarryBlendsModel" "aside" "[I" ∈ wsX10_putAside := by decide +kernel
theorem lX10_putAside_f7 : Cond.fieldLink RX10 7 "QuarryBlendsModel" "s" "[I" ∈ wsX10_putAside := by decide +kernel
theorem iX10_putAside_X10 : ∀ w ∈ wsX100, w ∈ wsX10_putAside := by decide +kernel
set_option maxHeartbeats 4000000 in
set_option maxRecDepth 100000 in
theorem kX10_putAside_b2 {p : Program} {l : Launch} {e : Env} {s : State} {m : MethodId} {args : Array Value} {below : List Frame} {meth : Method} {c : Code} {G : qG} {A : Nat → Prop} {Qf : State → Prop} {R : va_W} {a : Nat → Nat} {k : qS → Prop} (hx : p.tables.exec = Jvm.exec) (hb : c.code = cX10_putAside) (hml : c.maxLocals = 2) (hown : s.vm.findClass RX10 = some m.cls) (hts : ∀ w ∈ wsX10_putAside, w.before args s = true) (hA : ∀ q : Nat, s.heap.size ≤ q → A q) (hKn : qKn G A s s.heap) (hret : ∀ (q : qS) (H : Heap) (locs : List Loc) (ls : Array Slot) (pc : Nat), k q → va_P G.1 vwCl (wM G a q ++ R) H → va_D A (wM G a q ++ R) → va_S A s.heap H locs → decode cX10_putAside pc = .ok (.return_, 1) → W p l e rmX10_putAside s m args below meth c H locs 0 0 Qf (F0 m pc ls [])) : ∀ (n : Nat) (q : qS) (x1 : Int32) (H : Heap) (locs : List Loc) (ls : Array Slot), wX10_putAside_b2 k n q x1 → va_P G.1 vwCl (wM G a q ++ R) H → va_D A (wM G a q ++ R) → va_S A s.heap H locs → lv_has ls 2 [(0, .ref (a 0)), (1, .int x1)] → W p l e rmX10_putAside s m args below meth c H locs 0 0 Qf (F0 m 2 ls []) := by
  intro n
  induction n with
  | zero => intros; rename_i h _ _ _ _; exact h.elim
  | succ n ih =>
    intro q x1 H locs ls h hP hD hS hl
    unfold wX10_putAside_b2 at h
    refine lv_iload_n hx hb dX10_putAside_2 rfl (lv_at hl 1 rfl) ?_
    refine lv_sipush (v := (210 : Int32)) hx hb dX10_putAside_3 (by decide) ?_
    refine lv_icmp_ge (tgt := 27) hx hb dX10_putAside_6 (by decide) (fun c1 => ?_) (fun c1 => ?_)
    · have h := h.1 c1
      exact hret _ _ _ _ _ h hP hD hS dX10_putAside_27
    · have h := h.2 c1
      refine lv_aload_n hx hb dX10_putAside_9 rfl (lv_at hl 0 rfl) ?_
      refine va_get (D := G.1) (ci := 10) (v := .ref (a 2)) (C := RX10) (T := TX10) (N := 15) hx hb hts iX10_putAside_X10 hown hKn.k hP 0 rfl rfl 2 (by decide) (hts _ lX10_putAside_f13) (fun _ h9 => h9) rfl dX10_putAside_10 ?_
      refine lv_iload_n hx hb dX10_putAside_13 rfl (lv_at hl 1 rfl) ?_
      refine lv_aload_n hx hb dX10_putAside_14 rfl (lv_at hl 0 rfl) ?_
      refine va_get (D := G.1) (ci := 10) (v := .ref (a 1)) (C := RX10) (T := TX10) (N := 15) hx hb hts iX10_putAside_X10 hown hKn.k hP 0 rfl rfl 1 (by decide) (hts _ lX10_putAside_f7) (fun _ h9 => h9) rfl dX10_putAside_15 ?_
      refine lv_iload_n hx hb dX10_putAside_18 rfl (lv_at hl 1 rfl) ?_
      obtain ⟨hin, h⟩ := h
      refine va_iald hx hb hKn.k hP 1 0 rfl rfl hin dX10_putAside_19 ?_
      refine lv_topi (fun y1 ey1 => ?_)
      have h := h y1 ey1
      obtain ⟨hin, h⟩ := h
      refine va_iast hx hb hKn.k hP hD hS 2 0 rfl rfl hin dX10_putAside_20 (fun H locs hP hD hS => ?_)
      obtain ⟨q2, eq2⟩ : ∃ z : qS, z = up2 q 2 (Int32.toNatClampNeg x1) y1 := ⟨_, rfl⟩
      have hP : va_P G.1 vwCl (wM G a q2 ++ R) H := by rw [eq2]; exact hP
      have hD : va_D A (wM G a q2 ++ R) := by rw [eq2]; exact hD
      have h := h q2 eq2
      obtain ⟨y3, ey3⟩ : ∃ z : Int32, z = x1 + (1 : Int32) := ⟨_, rfl⟩
      have h := h y3 ey3
      refine lv_iinc (v := y3) (lv' := [(1, .int y3), (0, .ref (a 0))]) hx hb dX10_putAside_21 hl (k := 1) rfl (by rw [ey3]; rfl) (by decide) rfl (fun ls hl => ?_)
      refine lv_goto (tgt := 2) hx hb dX10_putAside_24 (by decide) ?_
      exact ih q2 y3 _ _ _ h hP hD hS (lv_sub hl [1, 0] rfl)
set_option maxHeartbeats 4000000 in
set_option maxRecDepth 100000 in
theorem mX10_putAside (l : Launch) (G : qG) (k : qS → Prop) (R : va_W) (a : Nat → Nat) (q : qS) (sz : Nat) : Met l yX10_putAside wsX10_putAside rmX10_putAside (qPc G [.ref (a 0)] (wM G a q ++ R) sz (wX10_putAside k q)) (qQv G (wM G a q ++ R) sz (fun (u : qS) => k u) (fun (u : qS) => wM G a u ++ R)) 0 0 (va_A (wM G a q ++ R) sz) := by
  refine Met.ofW (cc := cX10_putAside) (maxL := 2) (ret := none) (by decide) rfl ?_
  intro p e s m args below meth c s₁ B hml hv
  obtain ⟨rfl, hsz, hP, hD0, hKn0, h⟩ := hv
  have hx := B.exec
  have hb := B.bytes
  have hr := B.returns
  have hts := atoms_spec (ws := wsX10_putAside) B.pre
  have hown : s.vm.findClass RX10 = some m.cls := findClass_of_methodNamed B.named
  have hlocks := B.notSynchronized
  subst hsz
  have hD := hD0.self (sz := s.heap.size)
  generalize hAe : va_A (wM G a q ++ R) s.heap.size = A at hD hKn0 ⊢
  have hA : ∀ q : Nat, s.heap.size ≤ q → A q := fun q h => by rw [← hAe]; exact Or.inr h
  have hKn : qKn G A s s.heap := hKn0
  have hS : va_S A s.heap s.heap [] := va_S.rf
  have hret : ∀ (q' : qS) (H : Heap) (locs : List Loc) (ls : Array Slot) (pc : Nat), k q' → va_P G.1 vwCl (wM G a q' ++ R) H → va_D A (wM G a q' ++ R) → va_S A s.heap H locs → decode cX10_putAside pc = .ok (.return_, 1) → W p l e rmX10_putAside s m #[.ref (a 0)] below meth c H locs 0 0 (MQ below (qQv G (wM G a q ++ R) s.heap.size (fun (u : qS) => k u) (fun (u : qS) => wM G a u ++ R)) #[.ref (a 0)] s 0 0 A) (F0 m pc ls []) := fun q' H locs ls pc hk hP hD hS hd => W.vret hx hb hr (fun t ht hW => q_rv (u := (q' : qS)) hAe hk hP hD hS ht) hS.2.2 hd
  have hl := lv_entry ([.ref (a 0)]) (n := 2) (Nat.le_of_ble_eq_true rfl)
  rw [lg_entry_eq]
  generalize (lg_sl ([.ref (a 0)]) ++ List.replicate (2 - (lg_sl ([.ref (a 0)])).length) Slot.unset).toArray = ls at hl ⊢
  have hl : lv_has ls 2 [(0, .ref (a 0))] := hl
  unfold wX10_putAside at h
  show W p l e rmX10_putAside s m #[.ref (a 0)] below meth c s.heap [] 0 0 _ _
  refine lv_iconst (v := (0 : Int32)) hx hb dX10_putAside_0 (by decide) ?_
  refine lv_istore_n (lv' := [(1, .int (0 : Int32)), (0, .ref (a 0))]) hx hb dX10_putAside_1 rfl hl (by decide) rfl (fun ls hl => ?_)
  obtain ⟨n4, h⟩ := h
  exact kX10_putAside_b2 hx hb hml hown hts hA hKn hret n4 q (0 : Int32) _ _ _ h hP hD hS (lv_sub hl [1, 0] rfl)
abbrev rmX10_takeBack : Room := { frames := 0, cells := 0, slots := 0, locals := 0 }
theorem lX10_takeBack_f13 : Cond.fieldLink RX10 13 "QuarryBlendsModel" "aside" "[I" ∈ wsX10_takeBack := by decide +kernel
theorem lX10_takeBack_f7 : Cond.fieldLink RX10 7 "QuarryBlendsModel" "s" "[I" ∈ wsX10_takeBack := by decide +kernel
theorem iX10_takeBack_X10 : ∀ w ∈ wsX100, w ∈ wsX10_takeBack := by decide +kernel
set_option maxHeartbeats 4000000 in
set_option maxRecDepth 100000 in
theorem kX10_takeBack_b2 {p : Program} {l : Launch} {e : Env} {s : State} {m : MethodId} {args : Array Value} {below : List Frame} {meth : Method} {c : Code} {G : qG} {A : Nat → Prop} {Qf : State → Prop} {R : va_W} {a : Nat → Nat} {k : qS → Prop} (hx : p.tables.exec = Jvm.exec) (hb : c.code = cX10_takeBack) (hml : c.maxLocals = 2) (hown : s.vm.findClass RX10 = some m.cls) (hts : ∀ w ∈ wsX10_takeBack, w.before args s = true) (hA : ∀ q : Nat, s.heap.size ≤ q → A q) (hKn : qKn G A s s.heap) (hret : ∀ (q : qS) (H : Heap) (locs : List Loc) (ls : Array Slot) (pc : Nat), k q → va_P G.1 vwCl (wM G a q ++ R) H → va_D A (wM G a q ++ R) → va_S A s.heap H locs → decode cX10_takeBack pc = .ok (.return_, 1) → W p l e rmX10_takeBack s m args below meth c H locs 0 0 Qf (F0 m pc ls [])) : ∀ (n : Nat) (q : qS) (x1 : Int32) (H : Heap) (locs : List Loc) (ls : Array Slot), wX10_takeBack_b2 k n q x1 → va_P G.1 vwCl (wM G a q ++ R) H → va_D A (wM G a q ++ R) → va_S A s.heap H locs → lv_has ls 2 [(0, .ref (a 0)), (1, .int x1)] → W p l e rmX10_takeBack s m args below meth c H locs 0 0 Qf (F0 m 2 ls []) := by
  intro n
  induction n with
  | zero => intros; rename_i h _ _ _ _; exact h.elim
  | succ n ih =>
    intro q x1 H locs ls h hP hD hS hl
    unfold wX10_takeBack_b2 at h
    refine lv_iload_n hx hb dX10_takeBack_2 rfl (lv_at hl 1 rfl) ?_
    refine lv_sipush (v := (210 : Int32)) hx hb dX10_takeBack_3 (by decide) ?_
    refine lv_icmp_ge (tgt := 27) hx hb dX10_takeBack_6 (by decide) (fun c1 => ?_) (fun c1 => ?_)
    · have h := h.1 c1
      exact hret _ _ _ _ _ h hP hD hS dX10_takeBack_27
    · have h := h.2 c1
      refine lv_aload_n hx hb dX10_takeBack_9 rfl (lv_at hl 0 rfl) ?_
      refine va_get (D := G.1) (ci := 10) (v := .ref (a 1)) (C := RX10) (T := TX10) (N := 15) hx hb hts iX10_takeBack_X10 hown hKn.k hP 0 rfl rfl 1 (by decide) (hts _ lX10_takeBack_f7) (fun _ h9 => h9) rfl dX10_takeBack_10 ?_
      refine lv_iload_n hx hb dX10_takeBack_13 rfl (lv_at hl 1 rfl) ?_
      refine lv_aload_n hx hb dX10_takeBack_14 rfl (lv_at hl 0 rfl) ?_
      refine va_get (D := G.1) (ci := 10) (v := .ref (a 2)) (C := RX10) (T := TX10) (N := 15) hx hb hts iX10_takeBack_X10 hown hKn.k hP 0 rfl rfl 2 (by decide) (hts _ lX10_takeBack_f13) (fun _ h9 => h9) rfl dX10_takeBack_15 ?_
      refine lv_iload_n hx hb dX10_takeBack_18 rfl (lv_at hl 1 rfl) ?_
      obtain ⟨hin, h⟩ := h
      refine va_iald hx hb hKn.k hP 2 0 rfl rfl hin dX10_takeBack_19 ?_
      refine lv_topi (fun y1 ey1 => ?_)
      have h := h y1 ey1
      obtain ⟨hin, h⟩ := h
      refine va_iast hx hb hKn.k hP hD hS 1 0 rfl rfl hin dX10_takeBack_20 (fun H locs hP hD hS => ?_)
      obtain ⟨q2, eq2⟩ : ∃ z : qS, z = up2 q 1 (Int32.toNatClampNeg x1) y1 := ⟨_, rfl⟩
      have hP : va_P G.1 vwCl (wM G a q2 ++ R) H := by rw [eq2]; exact hP
      have hD : va_D A (wM G a q2 ++ R) := by rw [eq2]; exact hD
      have h := h q2 eq2
      obtain ⟨y3, ey3⟩ : ∃ z : Int32, z = x1 + (1 : Int32) := ⟨_, rfl⟩
      have h := h y3 ey3
      refine lv_iinc (v := y3) (lv' := [(1, .int y3), (0, .ref (a 0))]) hx hb dX10_takeBack_21 hl (k := 1) rfl (by rw [ey3]; rfl) (by decide) rfl (fun ls hl => ?_)
      refine lv_goto (tgt := 2) hx hb dX10_takeBack_24 (by decide) ?_
      exact ih q2 y3 _ _ _ h hP hD hS (lv_sub hl [1, 0] rfl)
set_option maxHeartbeats 4000000 in
set_option maxRecDepth 100000 in
theorem mX10_takeBack (l : Launch) (G : qG) (k : qS → Prop) (R : va_W) (a : Nat → Nat) (q : qS) (sz : Nat) : Met l yX10_takeBack wsX10_takeBack rmX10_takeBack (qPc G [.ref (a 0)] (wM G a q ++ R) sz (wX10_takeBack k q)) (qQv G (wM G a q ++ R) sz (fun (u : qS) => k u) (fun (u : qS) => wM G a u ++ R)) 0 0 (va_A (wM G a q ++ R) sz) := by
  refine Met.ofW (cc := cX10_takeBack) (maxL := 2) (ret := none) (by decide) rfl ?_
  intro p e s m args below meth c s₁ B hml hv
  obtain ⟨rfl, hsz, hP, hD0, hKn0, h⟩ := hv
  have hx := B.exec
  have hb := B.bytes
  have hr := B.returns
  have hts := atoms_spec (ws := wsX10_takeBack) B.pre
  have hown : s.vm.findClass RX10 = some m.cls := findClass_of_methodNamed B.named
  have hlocks := B.notSynchronized
  subst hsz
  have hD := hD0.self (sz := s.heap.size)
  generalize hAe : va_A (wM G a q ++ R) s.heap.size = A at hD hKn0 ⊢
  have hA : ∀ q : Nat, s.heap.size ≤ q → A q := fun q h => by rw [← hAe]; exact Or.inr h
  have hKn : qKn G A s s.heap := hKn0
  have hS : va_S A s.heap s.heap [] := va_S.rf
  have hret : ∀ (q' : qS) (H : Heap) (locs : List Loc) (ls : Array Slot) (pc : Nat), k q' → va_P G.1 vwCl (wM G a q' ++ R) H → va_D A (wM G a q' ++ R) → va_S A s.heap H locs → decode cX10_takeBack pc = .ok (.return_, 1) → W p l e rmX10_takeBack s m #[.ref (a 0)] below meth c H locs 0 0 (MQ below (qQv G (wM G a q ++ R) s.heap.size (fun (u : qS) => k u) (fun (u : qS) => wM G a u ++ R)) #[.ref (a 0)] s 0 0 A) (F0 m pc ls []) := fun q' H locs ls pc hk hP hD hS hd => W.vret hx hb hr (fun t ht hW => q_rv (u := (q' : qS)) hAe hk hP hD hS ht) hS.2.2 hd
  have hl := lv_entry ([.ref (a 0)]) (n := 2) (Nat.le_of_ble_eq_true rfl)
  rw [lg_entry_eq]
  generalize (lg_sl ([.ref (a 0)]) ++ List.replicate (2 - (lg_sl ([.ref (a 0)])).length) Slot.unset).toArray = ls at hl ⊢
  have hl : lv_has ls 2 [(0, .ref (a 0))] := hl
  unfold wX10_takeBack at h
  show W p l e rmX10_takeBack s m #[.ref (a 0)] below meth c s.heap [] 0 0 _ _
  refine lv_iconst (v := (0 : Int32)) hx hb dX10_takeBack_0 (by decide) ?_
  refine lv_istore_n (lv' := [(1, .int (0 : Int32)), (0, .ref (a 0))]) hx hb dX10_takeBack_1 rfl hl (by decide) rfl (fun ls hl => ?_)
  obtain ⟨n4, h⟩ := h
  exact kX10_takeBack_b2 hx hb hml hown hts hA hKn hret n4 q (0 : Int32) _ _ _ h hP hD hS (lv_sub hl [1, 0] rfl)
abbrev rmX10_up : Room := { frames := 0, cells := 0, slots := 0, locals := 0 }
set_option maxHeartbeats 4000000 in
set_option maxRecDepth 100000 in
theorem mX10_up (l : Launch) (G : qG) (k : Int32 → Prop) (R : va_W)  (sz : Nat) (p0 : Int32) (p1 : Int32) : Met l yX10_up wsX10_up rmX10_up (qPc G [.int p0, .int p1] (R) sz (wX10_up k  p0 p1)) (qQi G (R) sz (fun (r : Int32) (u : Unit) => k r ) (fun (u : Unit) => R)) 0 0 (va_A (R) sz) := by
  refine Met.ofW (cc := cX10_up) (maxL := 2) (ret := (some .int)) (by decide) rfl ?_
  intro p e s m args below meth c s₁ B hml hv
  obtain ⟨rfl, hsz, hP, hD0, hKn0, h⟩ := hv
  have hx := B.exec
  have hb := B.bytes
  have hr := B.returns
  have hts := atoms_spec (ws := wsX10_up) B.pre
  have hown : s.vm.findClass RX10 = some m.cls := findClass_of_methodNamed B.named
  have hlocks := B.notSynchronized
  subst hsz
  have hD := hD0.self (sz := s.heap.size)
  generalize hAe : va_A (R) s.heap.size = A at hD hKn0 ⊢
  have hA : ∀ q : Nat, s.heap.size ≤ q → A q := fun q h => by rw [← hAe]; exact Or.inr h
  have hKn : qKn G A s s.heap := hKn0
  have hS : va_S A s.heap s.heap [] := va_S.rf
  have hret : ∀ (r : Int32)  (H : Heap) (locs : List Loc) (ls : Array Slot) (pc : Nat), k r  → va_P G.1 vwCl (R) H → va_D A (R) → va_S A s.heap H locs → decode cX10_up pc = .ok (.ireturn, 1) → W p l e rmX10_up s m #[.int p0, .int p1] below meth c H locs 0 0 (MQ below (qQi G (R) s.heap.size (fun (r : Int32) (u : Unit) => k r ) (fun (u : Unit) => R)) #[.int p0, .int p1] s 0 0 A) (F0 m pc ls [.int r]) := fun r  H locs ls pc hk hP hD hS hd => W.iret hx hb hr (fun t ht hW => q_ri (u := (() : Unit)) hAe hk hP hD hS ht) hS.2.2 hd
  have hl := lv_entry ([.int p0, .int p1]) (n := 2) (Nat.le_of_ble_eq_true rfl)
  rw [lg_entry_eq]
  generalize (lg_sl ([.int p0, .int p1]) ++ List.replicate (2 - (lg_sl ([.int p0, .int p1])).length) Slot.unset).toArray = ls at hl ⊢
  have hl : lv_has ls 2 [(0, .int p0), (1, .int p1)] := hl
  unfold wX10_up at h
  show W p l e rmX10_up s m #[.int p0, .int p1] below meth c s.heap [] 0 0 _ _
  refine lv_iload_n hx hb dX10_up_0 rfl (lv_at hl 0 rfl) ?_
  refine lv_iload_n hx hb dX10_up_1 rfl (lv_at hl 1 rfl) ?_
  refine lv_imul hx hb dX10_up_2 ?_
  refine lv_bipush (v := (99 : Int32)) hx hb dX10_up_3 (by decide) ?_
  refine lv_iadd hx hb dX10_up_5 ?_
  refine lv_bipush (v := (100 : Int32)) hx hb dX10_up_6 (by decide) ?_
  refine lv_idiv hx hb dX10_up_8 (by decide) ?_
  exact hret _ _ _ _ _ h hP hD hS dX10_up_9
abbrev rmX10_hasSieve : Room := { frames := 1, cells := 0, slots := 0, locals := 22 }
set_option maxHeartbeats 4000000 in
set_option maxRecDepth 100000 in
theorem kX10_hasSieve_b86 {p : Program} {l : Launch} {e : Env} {s : State} {m : MethodId} {args : Array Value} {below : List Frame} {meth : Method} {c : Code} {G : qG} {A : Nat → Prop} {Qf : State → Prop} {R : va_W} {a : Nat → Nat} {k : Int32 → qS → Prop} (hx : p.tables.exec = Jvm.exec) (hb : c.code = cX10_hasSieve) (hml : c.maxLocals = 6) (hown : s.vm.findClass RX10 = some m.cls) (hts : ∀ w ∈ wsX10_hasSieve, w.before args s = true) (hA : ∀ q : Nat, s.heap.size ≤ q → A q) (hKn : qKn G A s s.heap) (hret : ∀ (r : Int32) (q : qS) (H : Heap) (locs : List Loc) (ls : Array Slot) (pc : Nat), k r q → narrow .boolean (.int r) = .int r → va_P G.1 vwCl (wM G a q ++ R) H → va_D A (wM G a q ++ R) → va_S A s.heap H locs → decode cX10_hasSieve pc = .ok (.ireturn, 1) → W p l e rmX10_hasSieve s m args below meth c H locs 0 0 Qf (F0 m pc ls [.int r])) : ∀ (q : qS) (z0 : Int32) (H : Heap) (locs : List Loc) (ls : Array Slot), wX10_hasSieve_b86 k q z0 → va_P G.1 vwCl (wM G a q ++ R) H → va_D A (wM G a q ++ R) → va_S A s.heap H locs → lv_has ls 6 [] → W p l e rmX10_hasSieve s m args below meth c H locs 0 0 Qf (F0 m 86 ls [.int z0]) := by
  intro q z0 H locs ls h hP hD hS hl
  unfold wX10_hasSieve_b86 at h
  obtain ⟨hn1, h⟩ := h
  exact hret _ _ _ _ _ _ h hn1 hP hD hS dX10_hasSieve_86
set_option maxHeartbeats 4000000 in
set_option maxRecDepth 100000 in
theorem kX10_hasSieve_b85 {p : Program} {l : Launch} {e : Env} {s : State} {m : MethodId} {args : Array Value} {below : List Frame} {meth : Method} {c : Code} {G : qG} {A : Nat → Prop} {Qf : State → Prop} {R : va_W} {a : Nat → Nat} {k : Int32 → qS → Prop} (hx : p.tables.exec = Jvm.exec) (hb : c.code = cX10_hasSieve) (hml : c.maxLocals = 6) (hown : s.vm.findClass RX10 = some m.cls) (hts : ∀ w ∈ wsX10_hasSieve, w.before args s = true) (hA : ∀ q : Nat, s.heap.size ≤ q → A q) (hKn : qKn G A s s.heap) (hret : ∀ (r : Int32) (q : qS) (H : Heap) (locs : List Loc) (ls : Array Slot) (pc : Nat), k r q → narrow .boolean (.int r) = .int r → va_P G.1 vwCl (wM G a q ++ R) H → va_D A (wM G a q ++ R) → va_S A s.heap H locs → decode cX10_hasSieve pc = .ok (.ireturn, 1) → W p l e rmX10_hasSieve s m args below meth c H locs 0 0 Qf (F0 m pc ls [.int r])) : ∀ (q : qS) (H : Heap) (locs : List Loc) (ls : Array Slot), wX10_hasSieve_b85 k q → va_P G.1 vwCl (wM G a q ++ R) H → va_D A (wM G a q ++ R) → va_S A s.heap H locs → lv_has ls 6 [] → W p l e rmX10_hasSieve s m args below meth c H locs 0 0 Qf (F0 m 85 ls []) := by
  intro q H locs ls h hP hD hS hl
  unfold wX10_hasSieve_b85 at h
  refine lv_iconst (v := (0 : Int32)) hx hb dX10_hasSieve_85 (by decide) ?_
  exact kX10_hasSieve_b86 hx hb hml hown hts hA hKn hret q (0 : Int32) _ _ _ h hP hD hS (lv_sub hl [] rfl)
set_option maxHeartbeats 4000000 in
set_option maxRecDepth 100000 in
theorem kX10_hasSieve_b50 {p : Program} {l : Launch} {e : Env} {s : State} {m : MethodId} {args : Array Value} {below : List Frame} {meth : Method} {c : Code} {G : qG} {A : Nat → Prop} {Qf : State → Prop} {R : va_W} {a : Nat → Nat} {k : Int32 → qS → Prop} (hx : p.tables.exec = Jvm.exec) (hb : c.code = cX10_hasSieve) (hml : c.maxLocals = 6) (hown : s.vm.findClass RX10 = some m.cls) (hts : ∀ w ∈ wsX10_hasSieve, w.before args s = true) (hA : ∀ q : Nat, s.heap.size ≤ q → A q) (hKn : qKn G A s s.heap) (hret : ∀ (r : Int32) (q : qS) (H : Heap) (locs : List Loc) (ls : Array Slot) (pc : Nat), k r q → narrow .boolean (.int r) = .int r → va_P G.1 vwCl (wM G a q ++ R) H → va_D A (wM G a q ++ R) → va_S A s.heap H locs → decode cX10_hasSieve pc = .ok (.ireturn, 1) → W p l e rmX10_hasSieve s m args below meth c H locs 0 0 Qf (F0 m pc ls [.int r])) : ∀ (q : qS) (x1 : Int32) (x2 : Int32) (x3 : Int32) (x4 : Int32) (z0 : Int32) (H : Heap) (locs : List Loc) (ls : Array Slot), wX10_hasSieve_b50 k q x1 x2 x3 x4 z0 → va_P G.1 vwCl (wM G a q ++ R) H → va_D A (wM G a q ++ R) → va_S A s.heap H locs → lv_has ls 6 [(0, .ref (a 0)), (1, .int x1), (2, .int x2), (3, .int x3), (4, .int x4)] → W p l e rmX10_hasSieve s m args below meth c H locs 0 0 Qf (F0 m 50 ls [.int z0]) := by
  intro q x1 x2 x3 x4 z0 H locs ls h hP hD hS hl
  unfold wX10_hasSieve_b50 at h
  refine lv_istore (lv' := [(5, .int z0), (0, .ref (a 0)), (1, .int x1), (2, .int x2), (3, .int x3), (4, .int x4)]) hx hb dX10_hasSieve_50 hl (by decide) rfl (fun ls hl => ?_)
  refine lv_iload hx hb dX10_hasSieve_52 (lv_at hl 0 rfl) ?_
  refine lv_if_eq (tgt := 85) hx hb dX10_hasSieve_54 (by decide) (fun c1 => ?_) (fun c1 => ?_)
  · have h := h.1 c1
    exact kX10_hasSieve_b85 hx hb hml hown hts hA hKn hret q _ _ _ h hP hD hS (lv_sub hl [] rfl)
  · have h := h.2 c1
    refine lv_iload hx hb dX10_hasSieve_57 (lv_at hl 5 rfl) ?_
    refine lv_aload_n hx hb dX10_hasSieve_59 rfl (lv_at hl 1 rfl) ?_
    refine lv_iload_n hx hb dX10_hasSieve_60 rfl (lv_at hl 2 rfl) ?_
    refine lv_iconst (v := (4 : Int32)) hx hb dX10_hasSieve_61 (by decide) ?_
    refine qc_vi (As := [.int x1, .int (4 : Int32)]) (rest := [.int x4]) ⟨hx, hb, hml, hown, hts⟩ (mX10_asks l G _ _ a q _ x1 (4 : Int32)) (cwV 2 hts gX10_hasSieve_X10_asks rfl rfl rfl (by decide +kernel) ⟨Nat.le_of_ble_eq_true rfl, Nat.le_of_ble_eq_true rfl⟩) hP hD hS hA hKn 0 10 rfl rfl rfl h rfl hl.1 rfl (Nat.le_of_ble_eq_true rfl) dX10_hasSieve_62 ⟨Nat.zero_le _, Nat.zero_le _⟩ (fun r1 q2 H locs h hP hD hS => ?_)
    have hP : va_P G.1 vwCl (wM G a q2 ++ R) H := hP
    have hD : va_D A (wM G a q2 ++ R) := hD
    refine lv_iload_n hx hb dX10_hasSieve_65 rfl (lv_at hl 3 rfl) ?_
    refine lv_imul hx hb dX10_hasSieve_66 ?_
    refine lv_bipush (v := (100 : Int32)) hx hb dX10_hasSieve_67 (by decide) ?_
    refine lv_idiv hx hb dX10_hasSieve_69 (by decide) ?_
    refine lv_icmp_gt (tgt := 85) hx hb dX10_hasSieve_70 (by decide) (fun c1 => ?_) (fun c1 => ?_)
    · have h := h.1 c1
      exact kX10_hasSieve_b85 hx hb hml hown hts hA hKn hret q2 _ _ _ h hP hD hS (lv_sub hl [] rfl)
    · have h := h.2 c1
      refine lv_iload_n hx hb dX10_hasSieve_73 rfl (lv_at hl 4 rfl) ?_
      refine lv_iload hx hb dX10_hasSieve_74 (lv_at hl 5 rfl) ?_
      refine lv_iadd hx hb dX10_hasSieve_76 ?_
      refine lv_iload_n hx hb dX10_hasSieve_77 rfl (lv_at hl 3 rfl) ?_
      refine lv_icmp_gt (tgt := 85) hx hb dX10_hasSieve_78 (by decide) (fun c1 => ?_) (fun c1 => ?_)
      · have h := h.1 c1
        exact kX10_hasSieve_b85 hx hb hml hown hts hA hKn hret q2 _ _ _ h hP hD hS (lv_sub hl [] rfl)
      · have h := h.2 c1
        refine lv_iconst (v := (1 : Int32)) hx hb dX10_hasSieve_81 (by decide) ?_
        refine lv_goto (tgt := 86) hx hb dX10_hasSieve_82 (by decide) ?_
        exact kX10_hasSieve_b86 hx hb hml hown hts hA hKn hret q2 (1 : Int32) _ _ _ h hP hD hS (lv_sub hl [] rfl)
set_option maxHeartbeats 4000000 in
set_option maxRecDepth 100000 in
theorem mX10_hasSieve (l : Launch) (G : qG) (k : Int32 → qS → Prop) (R : va_W) (a : Nat → Nat) (q : qS) (sz : Nat) (p0 : Int32) : Met l yX10_hasSieve wsX10_hasSieve rmX10_hasSieve (qPc G [.ref (a 0), .int p0] (wM G a q ++ R) sz (wX10_hasSieve k q p0)) (qQi G (wM G a q ++ R) sz (fun (r : Int32) (u : qS) => k r u) (fun (u : qS) => wM G a u ++ R)) 0 0 (va_A (wM G a q ++ R) sz) := by
  refine Met.ofW (cc := cX10_hasSieve) (maxL := 6) (ret := (some .boolean)) (by decide) rfl ?_
  intro p e s m args below meth c s₁ B hml hv
  obtain ⟨rfl, hsz, hP, hD0, hKn0, h⟩ := hv
  have hx := B.exec
  have hb := B.bytes
  have hr := B.returns
  have hts := atoms_spec (ws := wsX10_hasSieve) B.pre
  have hown : s.vm.findClass RX10 = some m.cls := findClass_of_methodNamed B.named
  have hlocks := B.notSynchronized
  subst hsz
  have hD := hD0.self (sz := s.heap.size)
  generalize hAe : va_A (wM G a q ++ R) s.heap.size = A at hD hKn0 ⊢
  have hA : ∀ q : Nat, s.heap.size ≤ q → A q := fun q h => by rw [← hAe]; exact Or.inr h
  have hKn : qKn G A s s.heap := hKn0
  have hS : va_S A s.heap s.heap [] := va_S.rf
  have hret : ∀ (r : Int32) (q' : qS) (H : Heap) (locs : List Loc) (ls : Array Slot) (pc : Nat), k r q' → narrow .boolean (.int r) = .int r → va_P G.1 vwCl (wM G a q' ++ R) H → va_D A (wM G a q' ++ R) → va_S A s.heap H locs → decode cX10_hasSieve pc = .ok (.ireturn, 1) → W p l e rmX10_hasSieve s m #[.ref (a 0), .int p0] below meth c H locs 0 0 (MQ below (qQi G (wM G a q ++ R) s.heap.size (fun (r : Int32) (u : qS) => k r u) (fun (u : qS) => wM G a u ++ R)) #[.ref (a 0), .int p0] s 0 0 A) (F0 m pc ls [.int r]) := fun r q' H locs ls pc hk hn hP hD hS hd => W.zret hx hb hr hn (fun t ht hW => q_ri (u := (q' : qS)) hAe hk hP hD hS ht) hS.2.2 hd
  have hl := lv_entry ([.ref (a 0), .int p0]) (n := 6) (Nat.le_of_ble_eq_true rfl)
  rw [lg_entry_eq]
  generalize (lg_sl ([.ref (a 0), .int p0]) ++ List.replicate (6 - (lg_sl ([.ref (a 0), .int p0])).length) Slot.unset).toArray = ls at hl ⊢
  have hl : lv_has ls 6 [(0, .ref (a 0)), (1, .int p0)] := hl
  unfold wX10_hasSieve at h
  show W p l e rmX10_hasSieve s m #[.ref (a 0), .int p0] below meth c s.heap [] 0 0 _ _
  refine lv_aload_n hx hb dX10_hasSieve_0 rfl (lv_at hl 0 rfl) ?_
  refine lv_iload_n hx hb dX10_hasSieve_1 rfl (lv_at hl 1 rfl) ?_
  refine lv_iconst (v := (0 : Int32)) hx hb dX10_hasSieve_2 (by decide) ?_
  refine qc_vi (As := [.int p0, .int (0 : Int32)]) (rest := []) ⟨hx, hb, hml, hown, hts⟩ (mX10_asks l G _ _ a q _ p0 (0 : Int32)) (cwV 2 hts gX10_hasSieve_X10_asks rfl rfl rfl (by decide +kernel) ⟨Nat.le_of_ble_eq_true rfl, Nat.le_of_ble_eq_true rfl⟩) hP hD hS hA hKn 0 10 rfl rfl rfl h rfl hl.1 rfl (Nat.le_of_ble_eq_true rfl) dX10_hasSieve_3 ⟨Nat.zero_le _, Nat.zero_le _⟩ (fun r3 q4 H locs h hP hD hS => ?_)
  have hP : va_P G.1 vwCl (wM G a q4 ++ R) H := hP
  have hD : va_D A (wM G a q4 ++ R) := hD
  refine lv_istore_n (lv' := [(2, .int r3), (0, .ref (a 0)), (1, .int p0)]) hx hb dX10_hasSieve_6 rfl hl (by decide) rfl (fun ls hl => ?_)
  refine lv_aload_n hx hb dX10_hasSieve_7 rfl (lv_at hl 1 rfl) ?_
  refine lv_iload_n hx hb dX10_hasSieve_8 rfl (lv_at hl 2 rfl) ?_
  refine lv_iconst (v := (1 : Int32)) hx hb dX10_hasSieve_9 (by decide) ?_
  refine qc_vi (As := [.int p0, .int (1 : Int32)]) (rest := []) ⟨hx, hb, hml, hown, hts⟩ (mX10_asks l G _ _ a q4 _ p0 (1 : Int32)) (cwV 2 hts gX10_hasSieve_X10_asks rfl rfl rfl (by decide +kernel) ⟨Nat.le_of_ble_eq_true rfl, Nat.le_of_ble_eq_true rfl⟩) hP hD hS hA hKn 0 10 rfl rfl rfl h rfl hl.1 rfl (Nat.le_of_ble_eq_true rfl) dX10_hasSieve_10 ⟨Nat.zero_le _, Nat.zero_le _⟩ (fun r5 q6 H locs h hP hD hS => ?_)
  have hP : va_P G.1 vwCl (wM G a q6 ++ R) H := hP
  have hD : va_D A (wM G a q6 ++ R) := hD
  refine lv_iload_n hx hb dX10_hasSieve_13 rfl (lv_at hl 0 rfl) ?_
  refine qc_si (As := [.int r5, .int r3]) (rest := []) ⟨hx, hb, hml, hown, hts⟩ (mX10_up l G _ _ _ r5 r3) (cwS 2 hts gX10_hasSieve_X10_up rfl rfl rfl (by decide +kernel) ⟨Nat.le_of_ble_eq_true rfl, Nat.le_of_ble_eq_true rfl⟩) hP hD hS hA hKn h rfl hl.1 rfl (Nat.le_of_ble_eq_true rfl) dX10_hasSieve_14 ⟨Nat.zero_le _, Nat.zero_le _⟩ (fun r7 _ H locs h hP hD hS => ?_)
  have hP : va_P G.1 vwCl (wM G a q6 ++ R) H := hP
  have hD : va_D A (wM G a q6 ++ R) := hD
  refine lv_istore_n (lv' := [(3, .int r7), (2, .int r3), (0, .ref (a 0)), (1, .int p0)]) hx hb dX10_hasSieve_17 rfl hl (by decide) rfl (fun ls hl => ?_)
  refine lv_aload_n hx hb dX10_hasSieve_18 rfl (lv_at hl 2 rfl) ?_
  refine lv_iload_n hx hb dX10_hasSieve_19 rfl (lv_at hl 3 rfl) ?_
  refine lv_iconst (v := (3 : Int32)) hx hb dX10_hasSieve_20 (by decide) ?_
  refine qc_vi (As := [.int p0, .int (3 : Int32)]) (rest := []) ⟨hx, hb, hml, hown, hts⟩ (mX10_asks l G _ _ a q6 _ p0 (3 : Int32)) (cwV 2 hts gX10_hasSieve_X10_asks rfl rfl rfl (by decide +kernel) ⟨Nat.le_of_ble_eq_true rfl, Nat.le_of_ble_eq_true rfl⟩) hP hD hS hA hKn 0 10 rfl rfl rfl h rfl hl.1 rfl (Nat.le_of_ble_eq_true rfl) dX10_hasSieve_21 ⟨Nat.zero_le _, Nat.zero_le _⟩ (fun r8 q9 H locs h hP hD hS => ?_)
  have hP : va_P G.1 vwCl (wM G a q9 ++ R) H := hP
  have hD : va_D A (wM G a q9 ++ R) := hD
  refine lv_iload_n hx hb dX10_hasSieve_24 rfl (lv_at hl 1 rfl) ?_
  refine qc_si (As := [.int r8, .int r3]) (rest := []) ⟨hx, hb, hml, hown, hts⟩ (mX10_up l G _ _ _ r8 r3) (cwS 2 hts gX10_hasSieve_X10_up rfl rfl rfl (by decide +kernel) ⟨Nat.le_of_ble_eq_true rfl, Nat.le_of_ble_eq_true rfl⟩) hP hD hS hA hKn h rfl hl.1 rfl (Nat.le_of_ble_eq_true rfl) dX10_hasSieve_25 ⟨Nat.zero_le _, Nat.zero_le _⟩ (fun r10 _ H locs h hP hD hS => ?_)
  have hP : va_P G.1 vwCl (wM G a q9 ++ R) H := hP
  have hD : va_D A (wM G a q9 ++ R) := hD
  refine lv_istore (lv' := [(4, .int r10), (3, .int r7), (2, .int r3), (0, .ref (a 0)), (1, .int p0)]) hx hb dX10_hasSieve_28 hl (by decide) rfl (fun ls hl => ?_)
  refine lv_iload_n hx hb dX10_hasSieve_30 rfl (lv_at hl 1 rfl) ?_
  refine lv_aload_n hx hb dX10_hasSieve_31 rfl (lv_at hl 3 rfl) ?_
  refine lv_iload_n hx hb dX10_hasSieve_32 rfl (lv_at hl 4 rfl) ?_
  refine lv_iconst (v := (2 : Int32)) hx hb dX10_hasSieve_33 (by decide) ?_
  refine qc_vi (As := [.int p0, .int (2 : Int32)]) (rest := [.int r7]) ⟨hx, hb, hml, hown, hts⟩ (mX10_asks l G _ _ a q9 _ p0 (2 : Int32)) (cwV 2 hts gX10_hasSieve_X10_asks rfl rfl rfl (by decide +kernel) ⟨Nat.le_of_ble_eq_true rfl, Nat.le_of_ble_eq_true rfl⟩) hP hD hS hA hKn 0 10 rfl rfl rfl h rfl hl.1 rfl (Nat.le_of_ble_eq_true rfl) dX10_hasSieve_34 ⟨Nat.zero_le _, Nat.zero_le _⟩ (fun r11 q12 H locs h hP hD hS => ?_)
  have hP : va_P G.1 vwCl (wM G a q12 ++ R) H := hP
  have hD : va_D A (wM G a q12 ++ R) := hD
  refine lv_iload_n hx hb dX10_hasSieve_37 rfl (lv_at hl 2 rfl) ?_
  refine lv_imul hx hb dX10_hasSieve_38 ?_
  refine lv_bipush (v := (100 : Int32)) hx hb dX10_hasSieve_39 (by decide) ?_
  refine lv_idiv hx hb dX10_hasSieve_41 (by decide) ?_
  refine lv_icmp_gt (tgt := 49) hx hb dX10_hasSieve_42 (by decide) (fun c1 => ?_) (fun c1 => ?_)
  · have h := h.1 c1
    refine lv_iconst (v := (0 : Int32)) hx hb dX10_hasSieve_49 (by decide) ?_
    exact kX10_hasSieve_b50 hx hb hml hown hts hA hKn hret q12 p0 r3 r7 r10 (0 : Int32) _ _ _ h hP hD hS (lv_sub hl [3, 4, 2, 1, 0] rfl)
  · have h := h.2 c1
    refine lv_iconst (v := (1 : Int32)) hx hb dX10_hasSieve_45 (by decide) ?_
    refine lv_goto (tgt := 50) hx hb dX10_hasSieve_46 (by decide) ?_
    exact kX10_hasSieve_b50 hx hb hml hown hts hA hKn hret q12 p0 r3 r7 r10 (1 : Int32) _ _ _ h hP hD hS (lv_sub hl [3, 4, 2, 1, 0] rfl)
abbrev rmX10_blends : Room := { frames := 1, cells := 0, slots := 0, locals := 22 }
theorem lX10_blends_f46 : Cond.fieldLink RX10 46 "QuarryBlendsModel" "fine" "I" ∈ wsX10_blends := by decide +kernel
theorem lX10_blends_f49 : Cond.fieldLink RX10 49 "QuarryBlendsModel" "coarse" "I" ∈ wsX10_blends := by decide +kernel
theorem lX10_blends_f7 : Cond.fieldLink RX10 7 "QuarryBlendsModel" "s" "[I" ∈ wsX10_blends := by decide +kernel
theorem iX10_blends_X10 : ∀ w ∈ wsX100, w ∈ wsX10_blends := by decide +kernel
set_option maxHeartbeats 4000000 in
set_option maxRecDepth 100000 in
theorem kX10_blends_b166 {p : Program} {l : Launch} {e : Env} {s : State} {m : MethodId} {args : Array Value} {below : List Frame} {meth : Method} {c : Code} {G : qG} {A : Nat → Prop} {Qf : State → Prop} {R : va_W} {a : Nat → Nat} {k : Int32 → qS → Prop} (hx : p.tables.exec = Jvm.exec) (hb : c.code = cX10_blends) (hml : c.maxLocals = 9) (hown : s.vm.findClass RX10 = some m.cls) (hts : ∀ w ∈ wsX10_blends, w.before args s = true) (hA : ∀ q : Nat, s.heap.size ≤ q → A q) (hKn : qKn G A s s.heap) (hret : ∀ (r : Int32) (q : qS) (H : Heap) (locs : List Loc) (ls : Array Slot) (pc : Nat), k r q → narrow .boolean (.int r) = .int r → va_P G.1 vwCl (wM G a q ++ R) H → va_D A (wM G a q ++ R) → va_S A s.heap H locs → decode cX10_blends pc = .ok (.ireturn, 1) → W p l e rmX10_blends s m args below meth c H locs 0 0 Qf (F0 m pc ls [.int r])) {kb70 : qS → Int32 → Int32 → Int32 → Int32 → Int32 → Prop} (hkb70 : ∀ (q : qS) (x1 : Int32) (x2 : Int32) (x3 : Int32) (x4 : Int32) (x5 : Int32) (H : Heap) (locs : List Loc) (ls : Array Slot), kb70 q x1 x2 x3 x4 x5 → va_P G.1 vwCl (wM G a q ++ R) H → va_D A (wM G a q ++ R) → va_S A s.heap H locs → lv_has ls 9 [(0, .ref (a 0)), (1, .int x1), (2, .int x2), (3, .int x3), (4, .int x4), (5, .int x5)] → W p l e rmX10_blends s m args below meth c H locs 0 0 Qf (F0 m 70 ls [])) : ∀ (q : qS) (x1 : Int32) (x2 : Int32) (x3 : Int32) (x4 : Int32) (x5 : Int32) (H : Heap) (locs : List Loc) (ls : Array Slot), wX10_blends_b166 k kb70 q x1 x2 x3 x4 x5 → va_P G.1 vwCl (wM G a q ++ R) H → va_D A (wM G a q ++ R) → va_S A s.heap H locs → lv_has ls 9 [(0, .ref (a 0)), (1, .int x1), (2, .int x2), (3, .int x3), (4, .int x4), (5, .int x5)] → W p l e rmX10_blends s m args below meth c H locs 0 0 Qf (F0 m 166 ls []) := by
  intro q x1 x2 x3 x4 x5 H locs ls h hP hD hS hl
  unfold wX10_blends_b166 at h
  obtain ⟨y1, ey1⟩ : ∃ z : Int32, z = x5 + (-1 : Int32) := ⟨_, rfl⟩
  have h := h y1 ey1
  refine lv_iinc (v := y1) (lv' := [(5, .int y1), (0, .ref (a 0)), (1, .int x1), (2, .int x2), (3, .int x3), (4, .int x4)]) hx hb dX10_blends_166 hl (k := 5) rfl (by rw [ey1]; rfl) (by decide) rfl (fun ls hl => ?_)
  refine lv_goto (tgt := 70) hx hb dX10_blends_169 (by decide) ?_
  exact hkb70 q x1 x2 x3 x4 y1 _ _ _ h hP hD hS (lv_sub hl [1, 2, 3, 4, 5, 0] rfl)
set_option maxHeartbeats 4000000 in
set_option maxRecDepth 100000 in
theorem kX10_blends_b124 {p : Program} {l : Launch} {e : Env} {s : State} {m : MethodId} {args : Array Value} {below : List Frame} {meth : Method} {c : Code} {G : qG} {A : Nat → Prop} {Qf : State → Prop} {R : va_W} {a : Nat → Nat} {k : Int32 → qS → Prop} (hx : p.tables.exec = Jvm.exec) (hb : c.code = cX10_blends) (hml : c.maxLocals = 9) (hown : s.vm.findClass RX10 = some m.cls) (hts : ∀ w ∈ wsX10_blends, w.before args s = true) (hA : ∀ q : Nat, s.heap.size ≤ q → A q) (hKn : qKn G A s s.heap) (hret : ∀ (r : Int32) (q : qS) (H : Heap) (locs : List Loc) (ls : Array Slot) (pc : Nat), k r q → narrow .boolean (.int r) = .int r → va_P G.1 vwCl (wM G a q ++ R) H → va_D A (wM G a q ++ R) → va_S A s.heap H locs → decode cX10_blends pc = .ok (.ireturn, 1) → W p l e rmX10_blends s m args below meth c H locs 0 0 Qf (F0 m pc ls [.int r])) {kb70 : qS → Int32 → Int32 → Int32 → Int32 → Int32 → Prop} (hkb70 : ∀ (q : qS) (x1 : Int32) (x2 : Int32) (x3 : Int32) (x4 : Int32) (x5 : Int32) (H : Heap) (locs : List Loc) (ls : Array Slot), kb70 q x1 x2 x3 x4 x5 → va_P G.1 vwCl (wM G a q ++ R) H → va_D A (wM G a q ++ R) → va_S A s.heap H locs → lv_has ls 9 [(0, .ref (a 0)), (1, .int x1), (2, .int x2), (3, .int x3), (4, .int x4), (5, .int x5)] → W p l e rmX10_blends s m args below meth c H locs 0 0 Qf (F0 m 70 ls [])) : ∀ (q : qS) (x1 : Int32) (x2 : Int32) (x3 : Int32) (x4 : Int32) (x5 : Int32) (x6 : Int32) (z0 : Int32) (H : Heap) (locs : List Loc) (ls : Array Slot), wX10_blends_b124 k kb70 q x1 x2 x3 x4 x5 x6 z0 → va_P G.1 vwCl (wM G a q ++ R) H → va_D A (wM G a q ++ R) → va_S A s.heap H locs → lv_has ls 9 [(0, .ref (a 0)), (1, .int x1), (2, .int x2), (3, .int x3), (4, .int x4), (5, .int x5), (6, .int x6)] → W p l e rmX10_blends s m args below meth c H locs 0 0 Qf (F0 m 124 ls [.int z0]) := by
  intro q x1 x2 x3 x4 x5 x6 z0 H locs ls h hP hD hS hl
  unfold wX10_blends_b124 at h
  refine lv_istore (lv' := [(8, .int z0), (0, .ref (a 0)), (1, .int x1), (2, .int x2), (3, .int x3), (4, .int x4), (5, .int x5), (6, .int x6)]) hx hb dX10_blends_124 hl (by decide) rfl (fun ls hl => ?_)
  refine lv_iload hx hb dX10_blends_126 (lv_at hl 6 rfl) ?_
  refine lv_aload_n hx hb dX10_blends_128 rfl (lv_at hl 1 rfl) ?_
  refine va_get (D := G.1) (ci := 10) (v := .ref (a 1)) (C := RX10) (T := TX10) (N := 15) hx hb hts iX10_blends_X10 hown hKn.k hP 0 rfl rfl 1 (by decide) (hts _ lX10_blends_f7) (fun _ h9 => h9) rfl dX10_blends_129 ?_
  refine lv_bipush (v := (16 : Int32)) hx hb dX10_blends_132 (by decide) ?_
  refine va_iald hx hb hKn.k hP 1 0 rfl rfl (by unfold vp_in; decide) dX10_blends_134 ?_
  refine lv_icmp_gt (tgt := 166) hx hb dX10_blends_135 (by decide) (fun c1 => ?_) (fun c1 => ?_)
  · have h := h.1 c1
    exact kX10_blends_b166 hx hb hml hown hts hA hKn hret hkb70 q x1 x2 x3 x4 x5 _ _ _ h hP hD hS (lv_sub hl [1, 2, 3, 4, 5, 6] rfl)
  · have h := h.2 c1
    refine lv_iload hx hb dX10_blends_138 (lv_at hl 0 rfl) ?_
    refine lv_iload hx hb dX10_blends_140 (lv_at hl 5 rfl) ?_
    refine lv_icmp_gt (tgt := 166) hx hb dX10_blends_142 (by decide) (fun c1 => ?_) (fun c1 => ?_)
    · have h := h.1 c1
      exact kX10_blends_b166 hx hb hml hown hts hA hKn hret hkb70 q x1 x2 x3 x4 x5 _ _ _ h hP hD hS (lv_sub hl [1, 2, 3, 4, 5, 6] rfl)
    · have h := h.2 c1
      refine lv_iload hx hb dX10_blends_145 (lv_at hl 0 rfl) ?_
      refine lv_iload hx hb dX10_blends_147 (lv_at hl 7 rfl) ?_
      refine lv_icmp_gt (tgt := 166) hx hb dX10_blends_149 (by decide) (fun c1 => ?_) (fun c1 => ?_)
      · have h := h.1 c1
        exact kX10_blends_b166 hx hb hml hown hts hA hKn hret hkb70 q x1 x2 x3 x4 x5 _ _ _ h hP hD hS (lv_sub hl [1, 2, 3, 4, 5, 6] rfl)
      · have h := h.2 c1
        refine lv_aload_n hx hb dX10_blends_152 rfl (lv_at hl 1 rfl) ?_
        refine lv_iload hx hb dX10_blends_153 (lv_at hl 0 rfl) ?_
        refine va_put (D := G.1) (ci := 10) (v := .int z0) (ty := .int) (C := RX10) (T := TX10) (N := 15) hx hb hts iX10_blends_X10 tyX10 tyX10_ok nmX10 hown hKn.k hP hD hS 0 rfl rfl 9 (by decide) (hts _ lX10_blends_f46) (fun _ h9 => h9) rfl (by decide +kernel) rfl rfl (Nat.le_of_ble_eq_true rfl) dX10_blends_155 (fun H locs hP hD hS => ?_)
        obtain ⟨q2, eq2⟩ : ∃ z : qS, z = up2 q 0 9 z0 := ⟨_, rfl⟩
        have hP : va_P G.1 vwCl (wM G a q2 ++ R) H := by rw [eq2]; exact hP
        have hD : va_D A (wM G a q2 ++ R) := by rw [eq2]; exact hD
        have h := h q2 eq2
        refine lv_aload_n hx hb dX10_blends_158 rfl (lv_at hl 1 rfl) ?_
        refine lv_iload hx hb dX10_blends_159 (lv_at hl 6 rfl) ?_
        refine va_put (D := G.1) (ci := 10) (v := .int x5) (ty := .int) (C := RX10) (T := TX10) (N := 15) hx hb hts iX10_blends_X10 tyX10 tyX10_ok nmX10 hown hKn.k hP hD hS 0 rfl rfl 10 (by decide) (hts _ lX10_blends_f49) (fun _ h9 => h9) rfl (by decide +kernel) rfl rfl (Nat.le_of_ble_eq_true rfl) dX10_blends_161 (fun H locs hP hD hS => ?_)
        obtain ⟨q3, eq3⟩ : ∃ z : qS, z = up2 q2 0 10 x5 := ⟨_, rfl⟩
        have hP : va_P G.1 vwCl (wM G a q3 ++ R) H := by rw [eq3]; exact hP
        have hD : va_D A (wM G a q3 ++ R) := by rw [eq3]; exact hD
        have h := h q3 eq3
        refine lv_iconst (v := (1 : Int32)) hx hb dX10_blends_164 (by decide) ?_
        exact hret _ _ _ _ _ _ h rfl hP hD hS dX10_blends_165
set_option maxHeartbeats 4000000 in
set_option maxRecDepth 100000 in
theorem kX10_blends_b70 {p : Program} {l : Launch} {e : Env} {s : State} {m : MethodId} {args : Array Value} {below : List Frame} {meth : Method} {c : Code} {G : qG} {A : Nat → Prop} {Qf : State → Prop} {R : va_W} {a : Nat → Nat} {k : Int32 → qS → Prop} (hx : p.tables.exec = Jvm.exec) (hb : c.code = cX10_blends) (hml : c.maxLocals = 9) (hown : s.vm.findClass RX10 = some m.cls) (hts : ∀ w ∈ wsX10_blends, w.before args s = true) (hA : ∀ q : Nat, s.heap.size ≤ q → A q) (hKn : qKn G A s s.heap) (hret : ∀ (r : Int32) (q : qS) (H : Heap) (locs : List Loc) (ls : Array Slot) (pc : Nat), k r q → narrow .boolean (.int r) = .int r → va_P G.1 vwCl (wM G a q ++ R) H → va_D A (wM G a q ++ R) → va_S A s.heap H locs → decode cX10_blends pc = .ok (.ireturn, 1) → W p l e rmX10_blends s m args below meth c H locs 0 0 Qf (F0 m pc ls [.int r])) : ∀ (n : Nat) (q : qS) (x1 : Int32) (x2 : Int32) (x3 : Int32) (x4 : Int32) (x5 : Int32) (H : Heap) (locs : List Loc) (ls : Array Slot), wX10_blends_b70 k n q x1 x2 x3 x4 x5 → va_P G.1 vwCl (wM G a q ++ R) H → va_D A (wM G a q ++ R) → va_S A s.heap H locs → lv_has ls 9 [(0, .ref (a 0)), (1, .int x1), (2, .int x2), (3, .int x3), (4, .int x4), (5, .int x5)] → W p l e rmX10_blends s m args below meth c H locs 0 0 Qf (F0 m 70 ls []) := by
  intro n
  induction n with
  | zero => intros; rename_i h _ _ _ _; exact h.elim
  | succ n ih =>
    intro q x1 x2 x3 x4 x5 H locs ls h hP hD hS hl
    unfold wX10_blends_b70 at h
    refine lv_iload hx hb dX10_blends_70 (lv_at hl 5 rfl) ?_
    refine lv_iload_n hx hb dX10_blends_72 rfl (lv_at hl 3 rfl) ?_
    refine lv_icmp_lt (tgt := 172) hx hb dX10_blends_73 (by decide) (fun c1 => ?_) (fun c1 => ?_)
    · have h := h.1 c1
      refine lv_iconst (v := (0 : Int32)) hx hb dX10_blends_172 (by decide) ?_
      exact hret _ _ _ _ _ _ h rfl hP hD hS dX10_blends_173
    · have h := h.2 c1
      refine lv_iload_n hx hb dX10_blends_76 rfl (lv_at hl 2 rfl) ?_
      refine lv_iload hx hb dX10_blends_77 (lv_at hl 5 rfl) ?_
      refine lv_isub hx hb dX10_blends_79 ?_
      refine lv_topi (fun y4 ey4 => ?_)
      have h := h y4 ey4
      refine lv_istore (lv' := [(6, .int y4), (0, .ref (a 0)), (1, .int x1), (2, .int x2), (3, .int x3), (4, .int x4), (5, .int x5)]) hx hb dX10_blends_80 hl (by decide) rfl (fun ls hl => ?_)
      refine lv_aload_n hx hb dX10_blends_82 rfl (lv_at hl 1 rfl) ?_
      refine lv_iload_n hx hb dX10_blends_83 rfl (lv_at hl 2 rfl) ?_
      refine lv_iconst (v := (1 : Int32)) hx hb dX10_blends_84 (by decide) ?_
      refine qc_vi (As := [.int x1, .int (1 : Int32)]) (rest := []) ⟨hx, hb, hml, hown, hts⟩ (mX10_asks l G _ _ a q _ x1 (1 : Int32)) (cwV 2 hts gX10_blends_X10_asks rfl rfl rfl (by decide +kernel) ⟨Nat.le_of_ble_eq_true rfl, Nat.le_of_ble_eq_true rfl⟩) hP hD hS hA hKn 0 10 rfl rfl rfl h rfl hl.1 rfl (Nat.le_of_ble_eq_true rfl) dX10_blends_85 ⟨Nat.zero_le _, Nat.zero_le _⟩ (fun r5 q6 H locs h hP hD hS => ?_)
      have hP : va_P G.1 vwCl (wM G a q6 ++ R) H := hP
      have hD : va_D A (wM G a q6 ++ R) := hD
      refine lv_iload_n hx hb dX10_blends_88 rfl (lv_at hl 3 rfl) ?_
      refine qc_si (As := [.int r5, .int x2]) (rest := []) ⟨hx, hb, hml, hown, hts⟩ (mX10_up l G _ _ _ r5 x2) (cwS 2 hts gX10_blends_X10_up rfl rfl rfl (by decide +kernel) ⟨Nat.le_of_ble_eq_true rfl, Nat.le_of_ble_eq_true rfl⟩) hP hD hS hA hKn h rfl hl.1 rfl (Nat.le_of_ble_eq_true rfl) dX10_blends_89 ⟨Nat.zero_le _, Nat.zero_le _⟩ (fun r7 _ H locs h hP hD hS => ?_)
      have hP : va_P G.1 vwCl (wM G a q6 ++ R) H := hP
      have hD : va_D A (wM G a q6 ++ R) := hD
      refine lv_istore (lv' := [(7, .int r7), (6, .int y4), (0, .ref (a 0)), (1, .int x1), (2, .int x2), (3, .int x3), (4, .int x4), (5, .int x5)]) hx hb dX10_blends_92 hl (by decide) rfl (fun ls hl => ?_)
      refine lv_iload hx hb dX10_blends_94 (lv_at hl 1 rfl) ?_
      refine lv_aload_n hx hb dX10_blends_96 rfl (lv_at hl 2 rfl) ?_
      refine va_get (D := G.1) (ci := 10) (v := .ref (a 1)) (C := RX10) (T := TX10) (N := 15) hx hb hts iX10_blends_X10 hown hKn.k hP 0 rfl rfl 1 (by decide) (hts _ lX10_blends_f7) (fun _ h9 => h9) rfl dX10_blends_97 ?_
      refine lv_bipush (v := (15 : Int32)) hx hb dX10_blends_100 (by decide) ?_
      refine va_iald hx hb hKn.k hP 1 0 rfl rfl (by unfold vp_in; decide) dX10_blends_102 ?_
      refine lv_isub hx hb dX10_blends_103 ?_
      refine lv_iload hx hb dX10_blends_104 (lv_at hl 0 rfl) ?_
      refine lv_icmp_le (tgt := 122) hx hb dX10_blends_106 (by decide) (fun c1 => ?_) (fun c1 => ?_)
      · have h := h.1 c1
        refine lv_iload hx hb dX10_blends_122 (lv_at hl 0 rfl) ?_
        exact kX10_blends_b124 hx hb hml hown hts hA hKn hret ih q6 x1 x2 x3 x4 x5 y4 r7 _ _ _ h hP hD hS (lv_sub hl [2, 3, 4, 5, 6, 7, 1] rfl)
      · have h := h.2 c1
        refine lv_iload hx hb dX10_blends_109 (lv_at hl 1 rfl) ?_
        refine lv_aload_n hx hb dX10_blends_111 rfl (lv_at hl 2 rfl) ?_
        refine va_get (D := G.1) (ci := 10) (v := .ref (a 1)) (C := RX10) (T := TX10) (N := 15) hx hb hts iX10_blends_X10 hown hKn.k hP 0 rfl rfl 1 (by decide) (hts _ lX10_blends_f7) (fun _ h9 => h9) rfl dX10_blends_112 ?_
        refine lv_bipush (v := (15 : Int32)) hx hb dX10_blends_115 (by decide) ?_
        refine va_iald hx hb hKn.k hP 1 0 rfl rfl (by unfold vp_in; decide) dX10_blends_117 ?_
        refine lv_isub hx hb dX10_blends_118 ?_
        refine lv_goto (tgt := 124) hx hb dX10_blends_119 (by decide) ?_
        exact kX10_blends_b124 hx hb hml hown hts hA hKn hret ih q6 x1 x2 x3 x4 x5 y4 (y4 - (q6 1 15)) _ _ _ h hP hD hS (lv_sub hl [2, 3, 4, 5, 6, 7, 1] rfl)
set_option maxHeartbeats 4000000 in
set_option maxRecDepth 100000 in
theorem kX10_blends_b55 {p : Program} {l : Launch} {e : Env} {s : State} {m : MethodId} {args : Array Value} {below : List Frame} {meth : Method} {c : Code} {G : qG} {A : Nat → Prop} {Qf : State → Prop} {R : va_W} {a : Nat → Nat} {k : Int32 → qS → Prop} (hx : p.tables.exec = Jvm.exec) (hb : c.code = cX10_blends) (hml : c.maxLocals = 9) (hown : s.vm.findClass RX10 = some m.cls) (hts : ∀ w ∈ wsX10_blends, w.before args s = true) (hA : ∀ q : Nat, s.heap.size ≤ q → A q) (hKn : qKn G A s s.heap) (hret : ∀ (r : Int32) (q : qS) (H : Heap) (locs : List Loc) (ls : Array Slot) (pc : Nat), k r q → narrow .boolean (.int r) = .int r → va_P G.1 vwCl (wM G a q ++ R) H → va_D A (wM G a q ++ R) → va_S A s.heap H locs → decode cX10_blends pc = .ok (.ireturn, 1) → W p l e rmX10_blends s m args below meth c H locs 0 0 Qf (F0 m pc ls [.int r])) : ∀ (q : qS) (x1 : Int32) (x2 : Int32) (x3 : Int32) (z0 : Int32) (H : Heap) (locs : List Loc) (ls : Array Slot), wX10_blends_b55 k q x1 x2 x3 z0 → va_P G.1 vwCl (wM G a q ++ R) H → va_D A (wM G a q ++ R) → va_S A s.heap H locs → lv_has ls 9 [(0, .ref (a 0)), (1, .int x1), (2, .int x2), (3, .int x3)] → W p l e rmX10_blends s m args below meth c H locs 0 0 Qf (F0 m 55 ls [.int z0]) := by
  intro q x1 x2 x3 z0 H locs ls h hP hD hS hl
  unfold wX10_blends_b55 at h
  refine lv_istore (lv' := [(4, .int z0), (0, .ref (a 0)), (1, .int x1), (2, .int x2), (3, .int x3)]) hx hb dX10_blends_55 hl (by decide) rfl (fun ls hl => ?_)
  refine lv_aload_n hx hb dX10_blends_57 rfl (lv_at hl 1 rfl) ?_
  refine lv_iload_n hx hb dX10_blends_58 rfl (lv_at hl 2 rfl) ?_
  refine lv_iconst (v := (4 : Int32)) hx hb dX10_blends_59 (by decide) ?_
  refine qc_vi (As := [.int x1, .int (4 : Int32)]) (rest := []) ⟨hx, hb, hml, hown, hts⟩ (mX10_asks l G _ _ a q _ x1 (4 : Int32)) (cwV 2 hts gX10_blends_X10_asks rfl rfl rfl (by decide +kernel) ⟨Nat.le_of_ble_eq_true rfl, Nat.le_of_ble_eq_true rfl⟩) hP hD hS hA hKn 0 10 rfl rfl rfl h rfl hl.1 rfl (Nat.le_of_ble_eq_true rfl) dX10_blends_60 ⟨Nat.zero_le _, Nat.zero_le _⟩ (fun r8 q9 H locs h hP hD hS => ?_)
  have hP : va_P G.1 vwCl (wM G a q9 ++ R) H := hP
  have hD : va_D A (wM G a q9 ++ R) := hD
  refine lv_iload_n hx hb dX10_blends_63 rfl (lv_at hl 3 rfl) ?_
  refine lv_imul hx hb dX10_blends_64 ?_
  refine lv_bipush (v := (100 : Int32)) hx hb dX10_blends_65 (by decide) ?_
  refine lv_idiv hx hb dX10_blends_67 (by decide) ?_
  refine lv_topi (fun y10 ey10 => ?_)
  have h := h y10 ey10
  refine lv_istore (lv' := [(5, .int y10), (4, .int z0), (0, .ref (a 0)), (1, .int x1), (2, .int x2), (3, .int x3)]) hx hb dX10_blends_68 hl (by decide) rfl (fun ls hl => ?_)
  obtain ⟨n11, h⟩ := h
  exact kX10_blends_b70 hx hb hml hown hts hA hKn hret n11 q9 x1 x2 x3 z0 y10 _ _ _ h hP hD hS (lv_sub hl [2, 3, 4, 5, 1, 0] rfl)
set_option maxHeartbeats 4000000 in
set_option maxRecDepth 100000 in
theorem mX10_blends (l : Launch) (G : qG) (k : Int32 → qS → Prop) (R : va_W) (a : Nat → Nat) (q : qS) (sz : Nat) (p0 : Int32) : Met l yX10_blends wsX10_blends rmX10_blends (qPc G [.ref (a 0), .int p0] (wM G a q ++ R) sz (wX10_blends k q p0)) (qQi G (wM G a q ++ R) sz (fun (r : Int32) (u : qS) => k r u) (fun (u : qS) => wM G a u ++ R)) 0 0 (va_A (wM G a q ++ R) sz) := by
  refine Met.ofW (cc := cX10_blends) (maxL := 9) (ret := (some .boolean)) (by decide) rfl ?_
  intro p e s m args below meth c s₁ B hml hv
  obtain ⟨rfl, hsz, hP, hD0, hKn0, h⟩ := hv
  have hx := B.exec
  have hb := B.bytes
  have hr := B.returns
  have hts := atoms_spec (ws := wsX10_blends) B.pre
  have hown : s.vm.findClass RX10 = some m.cls := findClass_of_methodNamed B.named
  have hlocks := B.notSynchronized
  subst hsz
  have hD := hD0.self (sz := s.heap.size)
  generalize hAe : va_A (wM G a q ++ R) s.heap.size = A at hD hKn0 ⊢
  have hA : ∀ q : Nat, s.heap.size ≤ q → A q := fun q h => by rw [← hAe]; exact Or.inr h
  have hKn : qKn G A s s.heap := hKn0
  have hS : va_S A s.heap s.heap [] := va_S.rf
  have hret : ∀ (r : Int32) (q' : qS) (H : Heap) (locs : List Loc) (ls : Array Slot) (pc : Nat), k r q' → narrow .boolean (.int r) = .int r → va_P G.1 vwCl (wM G a q' ++ R) H → va_D A (wM G a q' ++ R) → va_S A s.heap H locs → decode cX10_blends pc = .ok (.ireturn, 1) → W p l e rmX10_blends s m #[.ref (a 0), .int p0] below meth c H locs 0 0 (MQ below (qQi G (wM G a q ++ R) s.heap.size (fun (r : Int32) (u : qS) => k r u) (fun (u : qS) => wM G a u ++ R)) #[.ref (a 0), .int p0] s 0 0 A) (F0 m pc ls [.int r]) := fun r q' H locs ls pc hk hn hP hD hS hd => W.zret hx hb hr hn (fun t ht hW => q_ri (u := (q' : qS)) hAe hk hP hD hS ht) hS.2.2 hd
  have hl := lv_entry ([.ref (a 0), .int p0]) (n := 9) (Nat.le_of_ble_eq_true rfl)
  rw [lg_entry_eq]
  generalize (lg_sl ([.ref (a 0), .int p0]) ++ List.replicate (9 - (lg_sl ([.ref (a 0), .int p0])).length) Slot.unset).toArray = ls at hl ⊢
  have hl : lv_has ls 9 [(0, .ref (a 0)), (1, .int p0)] := hl
  unfold wX10_blends at h
  show W p l e rmX10_blends s m #[.ref (a 0), .int p0] below meth c s.heap [] 0 0 _ _
  refine lv_aload_n hx hb dX10_blends_0 rfl (lv_at hl 0 rfl) ?_
  refine lv_iload_n hx hb dX10_blends_1 rfl (lv_at hl 1 rfl) ?_
  refine lv_iconst (v := (0 : Int32)) hx hb dX10_blends_2 (by decide) ?_
  refine qc_vi (As := [.int p0, .int (0 : Int32)]) (rest := []) ⟨hx, hb, hml, hown, hts⟩ (mX10_asks l G _ _ a q _ p0 (0 : Int32)) (cwV 2 hts gX10_blends_X10_asks rfl rfl rfl (by decide +kernel) ⟨Nat.le_of_ble_eq_true rfl, Nat.le_of_ble_eq_true rfl⟩) hP hD hS hA hKn 0 10 rfl rfl rfl h rfl hl.1 rfl (Nat.le_of_ble_eq_true rfl) dX10_blends_3 ⟨Nat.zero_le _, Nat.zero_le _⟩ (fun r12 q13 H locs h hP hD hS => ?_)
  have hP : va_P G.1 vwCl (wM G a q13 ++ R) H := hP
  have hD : va_D A (wM G a q13 ++ R) := hD
  refine lv_istore_n (lv' := [(2, .int r12), (0, .ref (a 0)), (1, .int p0)]) hx hb dX10_blends_6 rfl hl (by decide) rfl (fun ls hl => ?_)
  refine lv_aload_n hx hb dX10_blends_7 rfl (lv_at hl 1 rfl) ?_
  refine lv_iload_n hx hb dX10_blends_8 rfl (lv_at hl 2 rfl) ?_
  refine lv_iconst (v := (3 : Int32)) hx hb dX10_blends_9 (by decide) ?_
  refine qc_vi (As := [.int p0, .int (3 : Int32)]) (rest := []) ⟨hx, hb, hml, hown, hts⟩ (mX10_asks l G _ _ a q13 _ p0 (3 : Int32)) (cwV 2 hts gX10_blends_X10_asks rfl rfl rfl (by decide +kernel) ⟨Nat.le_of_ble_eq_true rfl, Nat.le_of_ble_eq_true rfl⟩) hP hD hS hA hKn 0 10 rfl rfl rfl h rfl hl.1 rfl (Nat.le_of_ble_eq_true rfl) dX10_blends_10 ⟨Nat.zero_le _, Nat.zero_le _⟩ (fun r14 q15 H locs h hP hD hS => ?_)
  have hP : va_P G.1 vwCl (wM G a q15 ++ R) H := hP
  have hD : va_D A (wM G a q15 ++ R) := hD
  refine lv_iload_n hx hb dX10_blends_13 rfl (lv_at hl 0 rfl) ?_
  refine qc_si (As := [.int r14, .int r12]) (rest := []) ⟨hx, hb, hml, hown, hts⟩ (mX10_up l G _ _ _ r14 r12) (cwS 2 hts gX10_blends_X10_up rfl rfl rfl (by decide +kernel) ⟨Nat.le_of_ble_eq_true rfl, Nat.le_of_ble_eq_true rfl⟩) hP hD hS hA hKn h rfl hl.1 rfl (Nat.le_of_ble_eq_true rfl) dX10_blends_14 ⟨Nat.zero_le _, Nat.zero_le _⟩ (fun r16 _ H locs h hP hD hS => ?_)
  have hP : va_P G.1 vwCl (wM G a q15 ++ R) H := hP
  have hD : va_D A (wM G a q15 ++ R) := hD
  refine lv_istore_n (lv' := [(3, .int r16), (2, .int r12), (0, .ref (a 0)), (1, .int p0)]) hx hb dX10_blends_17 rfl hl (by decide) rfl (fun ls hl => ?_)
  refine lv_aload_n hx hb dX10_blends_18 rfl (lv_at hl 2 rfl) ?_
  refine lv_iload_n hx hb dX10_blends_19 rfl (lv_at hl 3 rfl) ?_
  refine lv_iconst (v := (2 : Int32)) hx hb dX10_blends_20 (by decide) ?_
  refine qc_vi (As := [.int p0, .int (2 : Int32)]) (rest := []) ⟨hx, hb, hml, hown, hts⟩ (mX10_asks l G _ _ a q15 _ p0 (2 : Int32)) (cwV 2 hts gX10_blends_X10_asks rfl rfl rfl (by decide +kernel) ⟨Nat.le_of_ble_eq_true rfl, Nat.le_of_ble_eq_true rfl⟩) hP hD hS hA hKn 0 10 rfl rfl rfl h rfl hl.1 rfl (Nat.le_of_ble_eq_true rfl) dX10_blends_21 ⟨Nat.zero_le _, Nat.zero_le _⟩ (fun r17 q18 H locs h hP hD hS => ?_)
  have hP : va_P G.1 vwCl (wM G a q18 ++ R) H := hP
  have hD : va_D A (wM G a q18 ++ R) := hD
  refine lv_iload_n hx hb dX10_blends_24 rfl (lv_at hl 1 rfl) ?_
  refine lv_imul hx hb dX10_blends_25 ?_
  refine lv_bipush (v := (100 : Int32)) hx hb dX10_blends_26 (by decide) ?_
  refine lv_idiv hx hb dX10_blends_28 (by decide) ?_
  refine lv_topi (fun y19 ey19 => ?_)
  have h := h y19 ey19
  refine lv_istore (lv' := [(4, .int y19), (3, .int r16), (2, .int r12), (0, .ref (a 0)), (1, .int p0)]) hx hb dX10_blends_29 hl (by decide) rfl (fun ls hl => ?_)
  refine lv_iload hx hb dX10_blends_31 (lv_at hl 0 rfl) ?_
  refine lv_aload_n hx hb dX10_blends_33 rfl (lv_at hl 3 rfl) ?_
  refine va_get (D := G.1) (ci := 10) (v := .ref (a 1)) (C := RX10) (T := TX10) (N := 15) hx hb hts iX10_blends_X10 hown hKn.k hP 0 rfl rfl 1 (by decide) (hts _ lX10_blends_f7) (fun _ h9 => h9) rfl dX10_blends_34 ?_
  refine lv_bipush (v := (14 : Int32)) hx hb dX10_blends_37 (by decide) ?_
  refine va_iald hx hb hKn.k hP 1 0 rfl rfl (by unfold vp_in; decide) dX10_blends_39 ?_
  refine lv_icmp_ge (tgt := 48) hx hb dX10_blends_40 (by decide) (fun c1 => ?_) (fun c1 => ?_)
  · have h := h.1 c1
    refine lv_aload_n hx hb dX10_blends_48 rfl (lv_at hl 3 rfl) ?_
    refine va_get (D := G.1) (ci := 10) (v := .ref (a 1)) (C := RX10) (T := TX10) (N := 15) hx hb hts iX10_blends_X10 hown hKn.k hP 0 rfl rfl 1 (by decide) (hts _ lX10_blends_f7) (fun _ h9 => h9) rfl dX10_blends_49 ?_
    refine lv_bipush (v := (14 : Int32)) hx hb dX10_blends_52 (by decide) ?_
    refine va_iald hx hb hKn.k hP 1 0 rfl rfl (by unfold vp_in; decide) dX10_blends_54 ?_
    exact kX10_blends_b55 hx hb hml hown hts hA hKn hret q18 p0 r12 r16 (q18 1 14) _ _ _ h hP hD hS (lv_sub hl [3, 4, 2, 1] rfl)
  · have h := h.2 c1
    refine lv_iload hx hb dX10_blends_43 (lv_at hl 0 rfl) ?_
    refine lv_goto (tgt := 55) hx hb dX10_blends_45 (by decide) ?_
    exact kX10_blends_b55 hx hb hml hown hts hA hKn hret q18 p0 r12 r16 y19 _ _ _ h hP hD hS (lv_sub hl [3, 4, 2, 1] rfl)
abbrev rmX10_reason : Room := { frames := 2, cells := 0, slots := 0, locals := 50 }
theorem lX10_reason_f7 : Cond.fieldLink RX10 7 "QuarryBlendsModel" "s" "[I" ∈ wsX10_reason := by decide +kernel
theorem iX10_reason_X10 : ∀ w ∈ wsX100, w ∈ wsX10_reason := by decide +kernel
set_option maxHeartbeats 4000000 in
set_option maxRecDepth 100000 in
theorem kX10_reason_b103 {p : Program} {l : Launch} {e : Env} {s : State} {m : MethodId} {args : Array Value} {below : List Frame} {meth : Method} {c : Code} {G : qG} {A : Nat → Prop} {Qf : State → Prop} {R : va_W} {a : Nat → Nat} {k : Int32 → qS → Prop} (hx : p.tables.exec = Jvm.exec) (hb : c.code = cX10_reason) (hml : c.maxLocals = 3) (hown : s.vm.findClass RX10 = some m.cls) (hts : ∀ w ∈ wsX10_reason, w.before args s = true) (hA : ∀ q : Nat, s.heap.size ≤ q → A q) (hKn : qKn G A s s.heap) (hret : ∀ (r : Int32) (q : qS) (H : Heap) (locs : List Loc) (ls : Array Slot) (pc : Nat), k r q → va_P G.1 vwCl (wM G a q ++ R) H → va_D A (wM G a q ++ R) → va_S A s.heap H locs → decode cX10_reason pc = .ok (.ireturn, 1) → W p l e rmX10_reason s m args below meth c H locs 0 0 Qf (F0 m pc ls [.int r])) : ∀ (q : qS) (z0 : Int32) (H : Heap) (locs : List Loc) (ls : Array Slot), wX10_reason_b103 k q z0 → va_P G.1 vwCl (wM G a q ++ R) H → va_D A (wM G a q ++ R) → va_S A s.heap H locs → lv_has ls 3 [] → W p l e rmX10_reason s m args below meth c H locs 0 0 Qf (F0 m 103 ls [.int z0]) := by
  intro q z0 H locs ls h hP hD hS hl
  unfold wX10_reason_b103 at h
  exact hret _ _ _ _ _ _ h hP hD hS dX10_reason_103
set_option maxHeartbeats 4000000 in
set_option maxRecDepth 100000 in
theorem mX10_reason (l : Launch) (G : qG) (k : Int32 → qS → Prop) (R : va_W) (a : Nat → Nat) (q : qS) (sz : Nat) (p0 : Int32) : Met l yX10_reason wsX10_reason rmX10_reason (qPc G [.ref (a 0), .int p0] (wM G a q ++ R) sz (wX10_reason k q p0)) (qQi G (wM G a q ++ R) sz (fun (r : Int32) (u : qS) => k r u) (fun (u : qS) => wM G a u ++ R)) 0 0 (va_A (wM G a q ++ R) sz) := by
  refine Met.ofW (cc := cX10_reason) (maxL := 3) (ret := (some .int)) (by decide) rfl ?_
  intro p e s m args below meth c s₁ B hml hv
  obtain ⟨rfl, hsz, hP, hD0, hKn0, h⟩ := hv
  have hx := B.exec
  have hb := B.bytes
  have hr := B.returns
  have hts := atoms_spec (ws := wsX10_reason) B.pre
  have hown : s.vm.findClass RX10 = some m.cls := findClass_of_methodNamed B.named
  have hlocks := B.notSynchronized
  subst hsz
  have hD := hD0.self (sz := s.heap.size)
  generalize hAe : va_A (wM G a q ++ R) s.heap.size = A at hD hKn0 ⊢
  have hA : ∀ q : Nat, s.heap.size ≤ q → A q := fun q h => by rw [← hAe]; exact Or.inr h
  have hKn : qKn G A s s.heap := hKn0
  have hS : va_S A s.heap s.heap [] := va_S.rf
  have hret : ∀ (r : Int32) (q' : qS) (H : Heap) (locs : List Loc) (ls : Array Slot) (pc : Nat), k r q' → va_P G.1 vwCl (wM G a q' ++ R) H → va_D A (wM G a q' ++ R) → va_S A s.heap H locs → decode cX10_reason pc = .ok (.ireturn, 1) → W p l e rmX10_reason s m #[.ref (a 0), .int p0] below meth c H locs 0 0 (MQ below (qQi G (wM G a q ++ R) s.heap.size (fun (r : Int32) (u : qS) => k r u) (fun (u : qS) => wM G a u ++ R)) #[.ref (a 0), .int p0] s 0 0 A) (F0 m pc ls [.int r]) := fun r q' H locs ls pc hk hP hD hS hd => W.iret hx hb hr (fun t ht hW => q_ri (u := (q' : qS)) hAe hk hP hD hS ht) hS.2.2 hd
  have hl := lv_entry ([.ref (a 0), .int p0]) (n := 3) (Nat.le_of_ble_eq_true rfl)
  rw [lg_entry_eq]
  generalize (lg_sl ([.ref (a 0), .int p0]) ++ List.replicate (3 - (lg_sl ([.ref (a 0), .int p0])).length) Slot.unset).toArray = ls at hl ⊢
  have hl : lv_has ls 3 [(0, .ref (a 0)), (1, .int p0)] := hl
  unfold wX10_reason at h
  show W p l e rmX10_reason s m #[.ref (a 0), .int p0] below meth c s.heap [] 0 0 _ _
  refine lv_aload_n hx hb dX10_reason_0 rfl (lv_at hl 0 rfl) ?_
  refine lv_iload_n hx hb dX10_reason_1 rfl (lv_at hl 1 rfl) ?_
  refine lv_iconst (v := (0 : Int32)) hx hb dX10_reason_2 (by decide) ?_
  refine qc_vi (As := [.int p0, .int (0 : Int32)]) (rest := []) ⟨hx, hb, hml, hown, hts⟩ (mX10_asks l G _ _ a q _ p0 (0 : Int32)) (cwV 2 hts gX10_reason_X10_asks rfl rfl rfl (by decide +kernel) ⟨Nat.le_of_ble_eq_true rfl, Nat.le_of_ble_eq_true rfl⟩) hP hD hS hA hKn 0 10 rfl rfl rfl h rfl hl.1 rfl (Nat.le_of_ble_eq_true rfl) dX10_reason_3 ⟨Nat.zero_le _, Nat.zero_le _⟩ (fun r1 q2 H locs h hP hD hS => ?_)
  have hP : va_P G.1 vwCl (wM G a q2 ++ R) H := hP
  have hD : va_D A (wM G a q2 ++ R) := hD
  refine lv_istore_n (lv' := [(2, .int r1), (0, .ref (a 0)), (1, .int p0)]) hx hb dX10_reason_6 rfl hl (by decide) rfl (fun ls hl => ?_)
  refine lv_aload_n hx hb dX10_reason_7 rfl (lv_at hl 1 rfl) ?_
  refine va_get (D := G.1) (ci := 10) (v := .ref (a 1)) (C := RX10) (T := TX10) (N := 15) hx hb hts iX10_reason_X10 hown hKn.k hP 0 rfl rfl 1 (by decide) (hts _ lX10_reason_f7) (fun _ h9 => h9) rfl dX10_reason_8 ?_
  refine lv_bipush (v := (14 : Int32)) hx hb dX10_reason_11 (by decide) ?_
  refine va_iald hx hb hKn.k hP 1 0 rfl rfl (by unfold vp_in; decide) dX10_reason_13 ?_
  refine lv_aload_n hx hb dX10_reason_14 rfl (lv_at hl 1 rfl) ?_
  refine va_get (D := G.1) (ci := 10) (v := .ref (a 1)) (C := RX10) (T := TX10) (N := 15) hx hb hts iX10_reason_X10 hown hKn.k hP 0 rfl rfl 1 (by decide) (hts _ lX10_reason_f7) (fun _ h9 => h9) rfl dX10_reason_15 ?_
  refine lv_bipush (v := (15 : Int32)) hx hb dX10_reason_18 (by decide) ?_
  refine va_iald hx hb hKn.k hP 1 0 rfl rfl (by unfold vp_in; decide) dX10_reason_20 ?_
  refine lv_iadd hx hb dX10_reason_21 ?_
  refine lv_aload_n hx hb dX10_reason_22 rfl (lv_at hl 1 rfl) ?_
  refine va_get (D := G.1) (ci := 10) (v := .ref (a 1)) (C := RX10) (T := TX10) (N := 15) hx hb hts iX10_reason_X10 hown hKn.k hP 0 rfl rfl 1 (by decide) (hts _ lX10_reason_f7) (fun _ h9 => h9) rfl dX10_reason_23 ?_
  refine lv_bipush (v := (16 : Int32)) hx hb dX10_reason_26 (by decide) ?_
  refine va_iald hx hb hKn.k hP 1 0 rfl rfl (by unfold vp_in; decide) dX10_reason_28 ?_
  refine lv_iadd hx hb dX10_reason_29 ?_
  refine lv_iload_n hx hb dX10_reason_30 rfl (lv_at hl 0 rfl) ?_
  refine lv_icmp_ge (tgt := 36) hx hb dX10_reason_31 (by decide) (fun c1 => ?_) (fun c1 => ?_)
  · have h := h.1 c1
    refine lv_aload_n hx hb dX10_reason_36 rfl (lv_at hl 1 rfl) ?_
    refine lv_iload_n hx hb dX10_reason_37 rfl (lv_at hl 2 rfl) ?_
    refine qc_vi (As := [.int p0]) (rest := []) ⟨hx, hb, hml, hown, hts⟩ (mX10_hasSieve l G _ _ a q2 _ p0) (cwV 1 hts gX10_reason_X10_hasSieve rfl rfl rfl (by decide +kernel) ⟨Nat.le_of_ble_eq_true rfl, Nat.le_of_ble_eq_true rfl⟩) hP hD hS hA hKn 0 10 rfl rfl rfl h rfl hl.1 rfl (Nat.le_of_ble_eq_true rfl) dX10_reason_38 ⟨Nat.zero_le _, Nat.zero_le _⟩ (fun r3 q4 H locs h hP hD hS => ?_)
    have hP : va_P G.1 vwCl (wM G a q4 ++ R) H := hP
    have hD : va_D A (wM G a q4 ++ R) := hD
    refine lv_if_ne (tgt := 46) hx hb dX10_reason_41 (by decide) (fun c1 => ?_) (fun c1 => ?_)
    · have h := h.1 c1
      refine lv_aload_n hx hb dX10_reason_46 rfl (lv_at hl 1 rfl) ?_
      refine va_get (D := G.1) (ci := 10) (v := .ref (a 1)) (C := RX10) (T := TX10) (N := 15) hx hb hts iX10_reason_X10 hown hKn.k hP 0 rfl rfl 1 (by decide) (hts _ lX10_reason_f7) (fun _ h9 => h9) rfl dX10_reason_47 ?_
      refine lv_bipush (v := (14 : Int32)) hx hb dX10_reason_50 (by decide) ?_
      refine va_iald hx hb hKn.k hP 1 0 rfl rfl (by unfold vp_in; decide) dX10_reason_52 ?_
      refine lv_aload_n hx hb dX10_reason_53 rfl (lv_at hl 1 rfl) ?_
      refine lv_iload_n hx hb dX10_reason_54 rfl (lv_at hl 2 rfl) ?_
      refine lv_iconst (v := (1 : Int32)) hx hb dX10_reason_55 (by decide) ?_
      refine qc_vi (As := [.int p0, .int (1 : Int32)]) (rest := [.int (q4 1 14)]) ⟨hx, hb, hml, hown, hts⟩ (mX10_asks l G _ _ a q4 _ p0 (1 : Int32)) (cwV 2 hts gX10_reason_X10_asks rfl rfl rfl (by decide +kernel) ⟨Nat.le_of_ble_eq_true rfl, Nat.le_of_ble_eq_true rfl⟩) hP hD hS hA hKn 0 10 rfl rfl rfl h rfl hl.1 rfl (Nat.le_of_ble_eq_true rfl) dX10_reason_56 ⟨Nat.zero_le _, Nat.zero_le _⟩ (fun r5 q6 H locs h hP hD hS => ?_)
      have hP : va_P G.1 vwCl (wM G a q6 ++ R) H := hP
      have hD : va_D A (wM G a q6 ++ R) := hD
      refine lv_iload_n hx hb dX10_reason_59 rfl (lv_at hl 0 rfl) ?_
      refine qc_si (As := [.int r5, .int r1]) (rest := [.int (q4 1 14)]) ⟨hx, hb, hml, hown, hts⟩ (mX10_up l G _ _ _ r5 r1) (cwS 2 hts gX10_reason_X10_up rfl rfl rfl (by decide +kernel) ⟨Nat.le_of_ble_eq_true rfl, Nat.le_of_ble_eq_true rfl⟩) hP hD hS hA hKn h rfl hl.1 rfl (Nat.le_of_ble_eq_true rfl) dX10_reason_60 ⟨Nat.zero_le _, Nat.zero_le _⟩ (fun r7 _ H locs h hP hD hS => ?_)
      have hP : va_P G.1 vwCl (wM G a q6 ++ R) H := hP
      have hD : va_D A (wM G a q6 ++ R) := hD
      refine lv_icmp_ge (tgt := 68) hx hb dX10_reason_63 (by decide) (fun c1 => ?_) (fun c1 => ?_)
      · have h := h.1 c1
        refine lv_aload_n hx hb dX10_reason_68 rfl (lv_at hl 1 rfl) ?_
        refine va_get (D := G.1) (ci := 10) (v := .ref (a 1)) (C := RX10) (T := TX10) (N := 15) hx hb hts iX10_reason_X10 hown hKn.k hP 0 rfl rfl 1 (by decide) (hts _ lX10_reason_f7) (fun _ h9 => h9) rfl dX10_reason_69 ?_
        refine lv_bipush (v := (16 : Int32)) hx hb dX10_reason_72 (by decide) ?_
        refine va_iald hx hb hKn.k hP 1 0 rfl rfl (by unfold vp_in; decide) dX10_reason_74 ?_
        refine lv_aload_n hx hb dX10_reason_75 rfl (lv_at hl 1 rfl) ?_
        refine lv_iload_n hx hb dX10_reason_76 rfl (lv_at hl 2 rfl) ?_
        refine lv_iconst (v := (3 : Int32)) hx hb dX10_reason_77 (by decide) ?_
        refine qc_vi (As := [.int p0, .int (3 : Int32)]) (rest := [.int (q6 1 16)]) ⟨hx, hb, hml, hown, hts⟩ (mX10_asks l G _ _ a q6 _ p0 (3 : Int32)) (cwV 2 hts gX10_reason_X10_asks rfl rfl rfl (by decide +kernel) ⟨Nat.le_of_ble_eq_true rfl, Nat.le_of_ble_eq_true rfl⟩) hP hD hS hA hKn 0 10 rfl rfl rfl h rfl hl.1 rfl (Nat.le_of_ble_eq_true rfl) dX10_reason_78 ⟨Nat.zero_le _, Nat.zero_le _⟩ (fun r8 q9 H locs h hP hD hS => ?_)
        have hP : va_P G.1 vwCl (wM G a q9 ++ R) H := hP
        have hD : va_D A (wM G a q9 ++ R) := hD
        refine lv_iload_n hx hb dX10_reason_81 rfl (lv_at hl 0 rfl) ?_
        refine qc_si (As := [.int r8, .int r1]) (rest := [.int (q6 1 16)]) ⟨hx, hb, hml, hown, hts⟩ (mX10_up l G _ _ _ r8 r1) (cwS 2 hts gX10_reason_X10_up rfl rfl rfl (by decide +kernel) ⟨Nat.le_of_ble_eq_true rfl, Nat.le_of_ble_eq_true rfl⟩) hP hD hS hA hKn h rfl hl.1 rfl (Nat.le_of_ble_eq_true rfl) dX10_reason_82 ⟨Nat.zero_le _, Nat.zero_le _⟩ (fun r10 _ H locs h hP hD hS => ?_)
        have hP : va_P G.1 vwCl (wM G a q9 ++ R) H := hP
        have hD : va_D A (wM G a q9 ++ R) := hD
        refine lv_icmp_ge (tgt := 90) hx hb dX10_reason_85 (by decide) (fun c1 => ?_) (fun c1 => ?_)
        · have h := h.1 c1
          refine lv_aload_n hx hb dX10_reason_90 rfl (lv_at hl 1 rfl) ?_
          refine lv_iload_n hx hb dX10_reason_91 rfl (lv_at hl 2 rfl) ?_
          refine qc_vi (As := [.int p0]) (rest := []) ⟨hx, hb, hml, hown, hts⟩ (mX10_blends l G _ _ a q9 _ p0) (cwV 1 hts gX10_reason_X10_blends rfl rfl rfl (by decide +kernel) ⟨Nat.le_of_ble_eq_true rfl, Nat.le_of_ble_eq_true rfl⟩) hP hD hS hA hKn 0 10 rfl rfl rfl h rfl hl.1 rfl (Nat.le_of_ble_eq_true rfl) dX10_reason_92 ⟨Nat.zero_le _, Nat.zero_le _⟩ (fun r11 q12 H locs h hP hD hS => ?_)
          have hP : va_P G.1 vwCl (wM G a q12 ++ R) H := hP
          have hD : va_D A (wM G a q12 ++ R) := hD
          refine lv_if_eq (tgt := 102) hx hb dX10_reason_95 (by decide) (fun c1 => ?_) (fun c1 => ?_)
          · have h := h.1 c1
            refine lv_iconst (v := (5 : Int32)) hx hb dX10_reason_102 (by decide) ?_
            exact kX10_reason_b103 hx hb hml hown hts hA hKn hret q12 (5 : Int32) _ _ _ h hP hD hS (lv_sub hl [] rfl)
          · have h := h.2 c1
            refine lv_iconst (v := (0 : Int32)) hx hb dX10_reason_98 (by decide) ?_
            refine lv_goto (tgt := 103) hx hb dX10_reason_99 (by decide) ?_
            exact kX10_reason_b103 hx hb hml hown hts hA hKn hret q12 (0 : Int32) _ _ _ h hP hD hS (lv_sub hl [] rfl)
        · have h := h.2 c1
          refine lv_iconst (v := (4 : Int32)) hx hb dX10_reason_88 (by decide) ?_
          exact hret _ _ _ _ _ _ h hP hD hS dX10_reason_89
      · have h := h.2 c1
        refine lv_iconst (v := (3 : Int32)) hx hb dX10_reason_66 (by decide) ?_
        exact hret _ _ _ _ _ _ h hP hD hS dX10_reason_67
    · have h := h.2 c1
      refine lv_iconst (v := (2 : Int32)) hx hb dX10_reason_44 (by decide) ?_
      exact hret _ _ _ _ _ _ h hP hD hS dX10_reason_45
  · have h := h.2 c1
    refine lv_iconst (v := (1 : Int32)) hx hb dX10_reason_34 (by decide) ?_
    exact hret _ _ _ _ _ _ h hP hD hS dX10_reason_35
abbrev rmX10_dropsContract : Room := { frames := 0, cells := 0, slots := 0, locals := 0 }
theorem lX10_dropsContract_f7 : Cond.fieldLink RX10 7 "QuarryBlendsModel" "s" "[I" ∈ wsX10_dropsContract := by decide +kernel
theorem iX10_dropsContract_X10 : ∀ w ∈ wsX100, w ∈ wsX10_dropsContract := by decide +kernel
set_option maxHeartbeats 4000000 in
set_option maxRecDepth 100000 in
theorem kX10_dropsContract_b61 {p : Program} {l : Launch} {e : Env} {s : State} {m : MethodId} {args : Array Value} {below : List Frame} {meth : Method} {c : Code} {G : qG} {A : Nat → Prop} {Qf : State → Prop} {R : va_W} {a : Nat → Nat} {k : qS → Prop} (hx : p.tables.exec = Jvm.exec) (hb : c.code = cX10_dropsContract) (hml : c.maxLocals = 3) (hown : s.vm.findClass RX10 = some m.cls) (hts : ∀ w ∈ wsX10_dropsContract, w.before args s = true) (hA : ∀ q : Nat, s.heap.size ≤ q → A q) (hKn : qKn G A s s.heap) (hret : ∀ (q : qS) (H : Heap) (locs : List Loc) (ls : Array Slot) (pc : Nat), k q → va_P G.1 vwCl (wM G a q ++ R) H → va_D A (wM G a q ++ R) → va_S A s.heap H locs → decode cX10_dropsContract pc = .ok (.return_, 1) → W p l e rmX10_dropsContract s m args below meth c H locs 0 0 Qf (F0 m pc ls [])) : ∀ (n : Nat) (q : qS) (x2 : Int32) (H : Heap) (locs : List Loc) (ls : Array Slot), wX10_dropsContract_b61 k n q x2 → va_P G.1 vwCl (wM G a q ++ R) H → va_D A (wM G a q ++ R) → va_S A s.heap H locs → lv_has ls 3 [(0, .ref (a 0)), (2, .int x2)] → W p l e rmX10_dropsContract s m args below meth c H locs 0 0 Qf (F0 m 61 ls []) := by
  intro n
  induction n with
  | zero => intros; rename_i h _ _ _ _; exact h.elim
  | succ n ih =>
    intro q x2 H locs ls h hP hD hS hl
    unfold wX10_dropsContract_b61 at h
    refine lv_iload_n hx hb dX10_dropsContract_61 rfl (lv_at hl 1 rfl) ?_
    refine lv_bipush (v := (6 : Int32)) hx hb dX10_dropsContract_62 (by decide) ?_
    refine lv_icmp_ge (tgt := 95) hx hb dX10_dropsContract_64 (by decide) (fun c1 => ?_) (fun c1 => ?_)
    · have h := h.1 c1
      exact hret _ _ _ _ _ h hP hD hS dX10_dropsContract_95
    · have h := h.2 c1
      refine lv_aload_n hx hb dX10_dropsContract_67 rfl (lv_at hl 0 rfl) ?_
      refine va_get (D := G.1) (ci := 10) (v := .ref (a 1)) (C := RX10) (T := TX10) (N := 15) hx hb hts iX10_dropsContract_X10 hown hKn.k hP 0 rfl rfl 1 (by decide) (hts _ lX10_dropsContract_f7) (fun _ h9 => h9) rfl dX10_dropsContract_68 ?_
      refine lv_sipush (v := (138 : Int32)) hx hb dX10_dropsContract_71 (by decide) ?_
      refine lv_bipush (v := (6 : Int32)) hx hb dX10_dropsContract_74 (by decide) ?_
      refine lv_aload_n hx hb dX10_dropsContract_76 rfl (lv_at hl 0 rfl) ?_
      refine va_get (D := G.1) (ci := 10) (v := .ref (a 1)) (C := RX10) (T := TX10) (N := 15) hx hb hts iX10_dropsContract_X10 hown hKn.k hP 0 rfl rfl 1 (by decide) (hts _ lX10_dropsContract_f7) (fun _ h9 => h9) rfl dX10_dropsContract_77 ?_
      refine lv_bipush (v := (8 : Int32)) hx hb dX10_dropsContract_80 (by decide) ?_
      refine va_iald hx hb hKn.k hP 1 0 rfl rfl (by unfold vp_in; decide) dX10_dropsContract_82 ?_
      refine lv_imul hx hb dX10_dropsContract_83 ?_
      refine lv_iadd hx hb dX10_dropsContract_84 ?_
      refine lv_iload_n hx hb dX10_dropsContract_85 rfl (lv_at hl 1 rfl) ?_
      refine lv_iadd hx hb dX10_dropsContract_86 ?_
      refine lv_iconst (v := (0 : Int32)) hx hb dX10_dropsContract_87 (by decide) ?_
      obtain ⟨hin, h⟩ := h
      refine va_iast hx hb hKn.k hP hD hS 1 0 rfl rfl hin dX10_dropsContract_88 (fun H locs hP hD hS => ?_)
      obtain ⟨q1, eq1⟩ : ∃ z : qS, z = up2 q 1 (Int32.toNatClampNeg (((138 : Int32) + ((6 : Int32) * (q 1 8))) + x2)) (0 : Int32) := ⟨_, rfl⟩
      have hP : va_P G.1 vwCl (wM G a q1 ++ R) H := by rw [eq1]; exact hP
      have hD : va_D A (wM G a q1 ++ R) := by rw [eq1]; exact hD
      have h := h q1 eq1
      obtain ⟨y2, ey2⟩ : ∃ z : Int32, z = x2 + (1 : Int32) := ⟨_, rfl⟩
      have h := h y2 ey2
      refine lv_iinc (v := y2) (lv' := [(2, .int y2), (0, .ref (a 0))]) hx hb dX10_dropsContract_89 hl (k := 1) rfl (by rw [ey2]; rfl) (by decide) rfl (fun ls hl => ?_)
      refine lv_goto (tgt := 61) hx hb dX10_dropsContract_92 (by decide) ?_
      exact ih q1 y2 _ _ _ h hP hD hS (lv_sub hl [1, 0] rfl)
set_option maxHeartbeats 4000000 in
set_option maxRecDepth 100000 in
theorem kX10_dropsContract_b16 {p : Program} {l : Launch} {e : Env} {s : State} {m : MethodId} {args : Array Value} {below : List Frame} {meth : Method} {c : Code} {G : qG} {A : Nat → Prop} {Qf : State → Prop} {R : va_W} {a : Nat → Nat} {k : qS → Prop} (hx : p.tables.exec = Jvm.exec) (hb : c.code = cX10_dropsContract) (hml : c.maxLocals = 3) (hown : s.vm.findClass RX10 = some m.cls) (hts : ∀ w ∈ wsX10_dropsContract, w.before args s = true) (hA : ∀ q : Nat, s.heap.size ≤ q → A q) (hKn : qKn G A s s.heap) (hret : ∀ (q : qS) (H : Heap) (locs : List Loc) (ls : Array Slot) (pc : Nat), k q → va_P G.1 vwCl (wM G a q ++ R) H → va_D A (wM G a q ++ R) → va_S A s.heap H locs → decode cX10_dropsContract pc = .ok (.return_, 1) → W p l e rmX10_dropsContract s m args below meth c H locs 0 0 Qf (F0 m pc ls [])) : ∀ (n : Nat) (q : qS) (x2 : Int32) (H : Heap) (locs : List Loc) (ls : Array Slot), wX10_dropsContract_b16 k n q x2 → va_P G.1 vwCl (wM G a q ++ R) H → va_D A (wM G a q ++ R) → va_S A s.heap H locs → lv_has ls 3 [(0, .ref (a 0)), (2, .int x2)] → W p l e rmX10_dropsContract s m args below meth c H locs 0 0 Qf (F0 m 16 ls []) := by
  intro n
  induction n with
  | zero => intros; rename_i h _ _ _ _; exact h.elim
  | succ n ih =>
    intro q x2 H locs ls h hP hD hS hl
    unfold wX10_dropsContract_b16 at h
    refine lv_iload_n hx hb dX10_dropsContract_16 rfl (lv_at hl 1 rfl) ?_
    refine lv_bipush (v := (6 : Int32)) hx hb dX10_dropsContract_17 (by decide) ?_
    refine lv_aload_n hx hb dX10_dropsContract_19 rfl (lv_at hl 0 rfl) ?_
    refine va_get (D := G.1) (ci := 10) (v := .ref (a 1)) (C := RX10) (T := TX10) (N := 15) hx hb hts iX10_dropsContract_X10 hown hKn.k hP 0 rfl rfl 1 (by decide) (hts _ lX10_dropsContract_f7) (fun _ h9 => h9) rfl dX10_dropsContract_20 ?_
    refine lv_bipush (v := (8 : Int32)) hx hb dX10_dropsContract_23 (by decide) ?_
    refine va_iald hx hb hKn.k hP 1 0 rfl rfl (by unfold vp_in; decide) dX10_dropsContract_25 ?_
    refine lv_imul hx hb dX10_dropsContract_26 ?_
    refine lv_icmp_ge (tgt := 59) hx hb dX10_dropsContract_27 (by decide) (fun c1 => ?_) (fun c1 => ?_)
    · have h := h.1 c1
      refine lv_iconst (v := (0 : Int32)) hx hb dX10_dropsContract_59 (by decide) ?_
      refine lv_istore_n (lv' := [(2, .int (0 : Int32)), (0, .ref (a 0))]) hx hb dX10_dropsContract_60 rfl hl (by decide) rfl (fun ls hl => ?_)
      obtain ⟨n3, h⟩ := h
      exact kX10_dropsContract_b61 hx hb hml hown hts hA hKn hret n3 q (0 : Int32) _ _ _ h hP hD hS (lv_sub hl [1, 0] rfl)
    · have h := h.2 c1
      refine lv_aload_n hx hb dX10_dropsContract_30 rfl (lv_at hl 0 rfl) ?_
      refine va_get (D := G.1) (ci := 10) (v := .ref (a 1)) (C := RX10) (T := TX10) (N := 15) hx hb hts iX10_dropsContract_X10 hown hKn.k hP 0 rfl rfl 1 (by decide) (hts _ lX10_dropsContract_f7) (fun _ h9 => h9) rfl dX10_dropsContract_31 ?_
      refine lv_sipush (v := (138 : Int32)) hx hb dX10_dropsContract_34 (by decide) ?_
      refine lv_iload_n hx hb dX10_dropsContract_37 rfl (lv_at hl 1 rfl) ?_
      refine lv_iadd hx hb dX10_dropsContract_38 ?_
      refine lv_aload_n hx hb dX10_dropsContract_39 rfl (lv_at hl 0 rfl) ?_
      refine va_get (D := G.1) (ci := 10) (v := .ref (a 1)) (C := RX10) (T := TX10) (N := 15) hx hb hts iX10_dropsContract_X10 hown hKn.k hP 0 rfl rfl 1 (by decide) (hts _ lX10_dropsContract_f7) (fun _ h9 => h9) rfl dX10_dropsContract_40 ?_
      refine lv_sipush (v := (138 : Int32)) hx hb dX10_dropsContract_43 (by decide) ?_
      refine lv_iload_n hx hb dX10_dropsContract_46 rfl (lv_at hl 1 rfl) ?_
      refine lv_iadd hx hb dX10_dropsContract_47 ?_
      refine lv_bipush (v := (6 : Int32)) hx hb dX10_dropsContract_48 (by decide) ?_
      refine lv_iadd hx hb dX10_dropsContract_50 ?_
      obtain ⟨hin, h⟩ := h
      refine va_iald hx hb hKn.k hP 1 0 rfl rfl hin dX10_dropsContract_51 ?_
      refine lv_topi (fun y4 ey4 => ?_)
      have h := h y4 ey4
      obtain ⟨hin, h⟩ := h
      refine va_iast hx hb hKn.k hP hD hS 1 0 rfl rfl hin dX10_dropsContract_52 (fun H locs hP hD hS => ?_)
      obtain ⟨q5, eq5⟩ : ∃ z : qS, z = up2 q 1 (Int32.toNatClampNeg ((138 : Int32) + x2)) y4 := ⟨_, rfl⟩
      have hP : va_P G.1 vwCl (wM G a q5 ++ R) H := by rw [eq5]; exact hP
      have hD : va_D A (wM G a q5 ++ R) := by rw [eq5]; exact hD
      have h := h q5 eq5
      obtain ⟨y6, ey6⟩ : ∃ z : Int32, z = x2 + (1 : Int32) := ⟨_, rfl⟩
      have h := h y6 ey6
      refine lv_iinc (v := y6) (lv' := [(2, .int y6), (0, .ref (a 0))]) hx hb dX10_dropsContract_53 hl (k := 1) rfl (by rw [ey6]; rfl) (by decide) rfl (fun ls hl => ?_)
      refine lv_goto (tgt := 16) hx hb dX10_dropsContract_56 (by decide) ?_
      exact ih q5 y6 _ _ _ h hP hD hS (lv_sub hl [1, 0] rfl)
set_option maxHeartbeats 4000000 in
set_option maxRecDepth 100000 in
theorem mX10_dropsContract (l : Launch) (G : qG) (k : qS → Prop) (R : va_W) (a : Nat → Nat) (q : qS) (sz : Nat) (p0 : Int32) : Met l yX10_dropsContract wsX10_dropsContract rmX10_dropsContract (qPc G [.ref (a 0), .int p0] (wM G a q ++ R) sz (wX10_dropsContract k q p0)) (qQv G (wM G a q ++ R) sz (fun (u : qS) => k u) (fun (u : qS) => wM G a u ++ R)) 0 0 (va_A (wM G a q ++ R) sz) := by
  refine Met.ofW (cc := cX10_dropsContract) (maxL := 3) (ret := none) (by decide) rfl ?_
  intro p e s m args below meth c s₁ B hml hv
  obtain ⟨rfl, hsz, hP, hD0, hKn0, h⟩ := hv
  have hx := B.exec
  have hb := B.bytes
  have hr := B.returns
  have hts := atoms_spec (ws := wsX10_dropsContract) B.pre
  have hown : s.vm.findClass RX10 = some m.cls := findClass_of_methodNamed B.named
  have hlocks := B.notSynchronized
  subst hsz
  have hD := hD0.self (sz := s.heap.size)
  generalize hAe : va_A (wM G a q ++ R) s.heap.size = A at hD hKn0 ⊢
  have hA : ∀ q : Nat, s.heap.size ≤ q → A q := fun q h => by rw [← hAe]; exact Or.inr h
  have hKn : qKn G A s s.heap := hKn0
  have hS : va_S A s.heap s.heap [] := va_S.rf
  have hret : ∀ (q' : qS) (H : Heap) (locs : List Loc) (ls : Array Slot) (pc : Nat), k q' → va_P G.1 vwCl (wM G a q' ++ R) H → va_D A (wM G a q' ++ R) → va_S A s.heap H locs → decode cX10_dropsContract pc = .ok (.return_, 1) → W p l e rmX10_dropsContract s m #[.ref (a 0), .int p0] below meth c H locs 0 0 (MQ below (qQv G (wM G a q ++ R) s.heap.size (fun (u : qS) => k u) (fun (u : qS) => wM G a u ++ R)) #[.ref (a 0), .int p0] s 0 0 A) (F0 m pc ls []) := fun q' H locs ls pc hk hP hD hS hd => W.vret hx hb hr (fun t ht hW => q_rv (u := (q' : qS)) hAe hk hP hD hS ht) hS.2.2 hd
  have hl := lv_entry ([.ref (a 0), .int p0]) (n := 3) (Nat.le_of_ble_eq_true rfl)
  rw [lg_entry_eq]
  generalize (lg_sl ([.ref (a 0), .int p0]) ++ List.replicate (3 - (lg_sl ([.ref (a 0), .int p0])).length) Slot.unset).toArray = ls at hl ⊢
  have hl : lv_has ls 3 [(0, .ref (a 0)), (1, .int p0)] := hl
  unfold wX10_dropsContract at h
  show W p l e rmX10_dropsContract s m #[.ref (a 0), .int p0] below meth c s.heap [] 0 0 _ _
  refine lv_aload_n hx hb dX10_dropsContract_0 rfl (lv_at hl 0 rfl) ?_
  refine va_get (D := G.1) (ci := 10) (v := .ref (a 1)) (C := RX10) (T := TX10) (N := 15) hx hb hts iX10_dropsContract_X10 hown hKn.k hP 0 rfl rfl 1 (by decide) (hts _ lX10_dropsContract_f7) (fun _ h9 => h9) rfl dX10_dropsContract_1 ?_
  refine lv_bipush (v := (8 : Int32)) hx hb dX10_dropsContract_4 (by decide) ?_
  refine lv_dup2_11 hx hb dX10_dropsContract_6 rfl rfl ?_
  refine va_iald hx hb hKn.k hP 1 0 rfl rfl (by unfold vp_in; decide) dX10_dropsContract_7 ?_
  refine lv_iconst (v := (1 : Int32)) hx hb dX10_dropsContract_8 (by decide) ?_
  refine lv_isub hx hb dX10_dropsContract_9 ?_
  refine lv_topi (fun y7 ey7 => ?_)
  have h := h y7 ey7
  refine va_iast hx hb hKn.k hP hD hS 1 0 rfl rfl (by unfold vp_in; decide) dX10_dropsContract_10 (fun H locs hP hD hS => ?_)
  obtain ⟨q8, eq8⟩ : ∃ z : qS, z = up2 q 1 8 y7 := ⟨_, rfl⟩
  have hP : va_P G.1 vwCl (wM G a q8 ++ R) H := by rw [eq8]; exact hP
  have hD : va_D A (wM G a q8 ++ R) := by rw [eq8]; exact hD
  have h := h q8 eq8
  refine lv_bipush (v := (6 : Int32)) hx hb dX10_dropsContract_11 (by decide) ?_
  refine lv_iload_n hx hb dX10_dropsContract_13 rfl (lv_at hl 1 rfl) ?_
  refine lv_imul hx hb dX10_dropsContract_14 ?_
  refine lv_topi (fun y9 ey9 => ?_)
  have h := h y9 ey9
  refine lv_istore_n (lv' := [(2, .int y9), (0, .ref (a 0)), (1, .int p0)]) hx hb dX10_dropsContract_15 rfl hl (by decide) rfl (fun ls hl => ?_)
  obtain ⟨n10, h⟩ := h
  exact kX10_dropsContract_b16 hx hb hml hown hts hA hKn hret n10 q8 y9 _ _ _ h hP hD hS (lv_sub hl [1, 0] rfl)
abbrev rmX10_delivers : Room := { frames := 1, cells := 0, slots := 0, locals := 22 }
theorem lX10_delivers_f46 : Cond.fieldLink RX10 46 "QuarryBlendsModel" "fine" "I" ∈ wsX10_delivers := by decide +kernel
theorem lX10_delivers_f49 : Cond.fieldLink RX10 49 "QuarryBlendsModel" "coarse" "I" ∈ wsX10_delivers := by decide +kernel
theorem lX10_delivers_f7 : Cond.fieldLink RX10 7 "QuarryBlendsModel" "s" "[I" ∈ wsX10_delivers := by decide +kernel
theorem iX10_delivers_X10 : ∀ w ∈ wsX100, w ∈ wsX10_delivers := by decide +kernel
set_option maxHeartbeats 4000000 in
set_option maxRecDepth 100000 in
theorem mX10_delivers (l : Launch) (G : qG) (k : qS → Prop) (R : va_W) (a : Nat → Nat) (q : qS) (sz : Nat) (p0 : Int32) : Met l yX10_delivers wsX10_delivers rmX10_delivers (qPc G [.ref (a 0), .int p0] (wM G a q ++ R) sz (wX10_delivers k q p0)) (qQv G (wM G a q ++ R) sz (fun (u : qS) => k u) (fun (u : qS) => wM G a u ++ R)) 0 0 (va_A (wM G a q ++ R) sz) := by
  refine Met.ofW (cc := cX10_delivers) (maxL := 3) (ret := none) (by decide) rfl ?_
  intro p e s m args below meth c s₁ B hml hv
  obtain ⟨rfl, hsz, hP, hD0, hKn0, h⟩ := hv
  have hx := B.exec
  have hb := B.bytes
  have hr := B.returns
  have hts := atoms_spec (ws := wsX10_delivers) B.pre
  have hown : s.vm.findClass RX10 = some m.cls := findClass_of_methodNamed B.named
  have hlocks := B.notSynchronized
  subst hsz
  have hD := hD0.self (sz := s.heap.size)
  generalize hAe : va_A (wM G a q ++ R) s.heap.size = A at hD hKn0 ⊢
  have hA : ∀ q : Nat, s.heap.size ≤ q → A q := fun q h => by rw [← hAe]; exact Or.inr h
  have hKn : qKn G A s s.heap := hKn0
  have hS : va_S A s.heap s.heap [] := va_S.rf
  have hret : ∀ (q' : qS) (H : Heap) (locs : List Loc) (ls : Array Slot) (pc : Nat), k q' → va_P G.1 vwCl (wM G a q' ++ R) H → va_D A (wM G a q' ++ R) → va_S A s.heap H locs → decode cX10_delivers pc = .ok (.return_, 1) → W p l e rmX10_delivers s m #[.ref (a 0), .int p0] below meth c H locs 0 0 (MQ below (qQv G (wM G a q ++ R) s.heap.size (fun (u : qS) => k u) (fun (u : qS) => wM G a u ++ R)) #[.ref (a 0), .int p0] s 0 0 A) (F0 m pc ls []) := fun q' H locs ls pc hk hP hD hS hd => W.vret hx hb hr (fun t ht hW => q_rv (u := (q' : qS)) hAe hk hP hD hS ht) hS.2.2 hd
  have hl := lv_entry ([.ref (a 0), .int p0]) (n := 3) (Nat.le_of_ble_eq_true rfl)
  rw [lg_entry_eq]
  generalize (lg_sl ([.ref (a 0), .int p0]) ++ List.replicate (3 - (lg_sl ([.ref (a 0), .int p0])).length) Slot.unset).toArray = ls at hl ⊢
  have hl : lv_has ls 3 [(0, .ref (a 0)), (1, .int p0)] := hl
  unfold wX10_delivers at h
  show W p l e rmX10_delivers s m #[.ref (a 0), .int p0] below meth c s.heap [] 0 0 _ _
  refine lv_aload_n hx hb dX10_delivers_0 rfl (lv_at hl 0 rfl) ?_
  refine lv_iload_n hx hb dX10_delivers_1 rfl (lv_at hl 1 rfl) ?_
  refine lv_iconst (v := (0 : Int32)) hx hb dX10_delivers_2 (by decide) ?_
  refine qc_vi (As := [.int p0, .int (0 : Int32)]) (rest := []) ⟨hx, hb, hml, hown, hts⟩ (mX10_asks l G _ _ a q _ p0 (0 : Int32)) (cwV 2 hts gX10_delivers_X10_asks rfl rfl rfl (by decide +kernel) ⟨Nat.le_of_ble_eq_true rfl, Nat.le_of_ble_eq_true rfl⟩) hP hD hS hA hKn 0 10 rfl rfl rfl h rfl hl.1 rfl (Nat.le_of_ble_eq_true rfl) dX10_delivers_3 ⟨Nat.zero_le _, Nat.zero_le _⟩ (fun r1 q2 H locs h hP hD hS => ?_)
  have hP : va_P G.1 vwCl (wM G a q2 ++ R) H := hP
  have hD : va_D A (wM G a q2 ++ R) := hD
  refine lv_istore_n (lv' := [(2, .int r1), (0, .ref (a 0)), (1, .int p0)]) hx hb dX10_delivers_6 rfl hl (by decide) rfl (fun ls hl => ?_)
  refine lv_aload_n hx hb dX10_delivers_7 rfl (lv_at hl 1 rfl) ?_
  refine va_get (D := G.1) (ci := 10) (v := .ref (a 1)) (C := RX10) (T := TX10) (N := 15) hx hb hts iX10_delivers_X10 hown hKn.k hP 0 rfl rfl 1 (by decide) (hts _ lX10_delivers_f7) (fun _ h9 => h9) rfl dX10_delivers_8 ?_
  refine lv_bipush (v := (14 : Int32)) hx hb dX10_delivers_11 (by decide) ?_
  refine lv_dup2_11 hx hb dX10_delivers_13 rfl rfl ?_
  refine va_iald hx hb hKn.k hP 1 0 rfl rfl (by unfold vp_in; decide) dX10_delivers_14 ?_
  refine lv_aload_n hx hb dX10_delivers_15 rfl (lv_at hl 1 rfl) ?_
  refine va_get (D := G.1) (ci := 10) (v := .int (q2 0 9)) (C := RX10) (T := TX10) (N := 15) hx hb hts iX10_delivers_X10 hown hKn.k hP 0 rfl rfl 9 (by decide) (hts _ lX10_delivers_f46) (fun _ h9 => h9) rfl dX10_delivers_16 ?_
  refine lv_isub hx hb dX10_delivers_19 ?_
  refine lv_topi (fun y3 ey3 => ?_)
  have h := h y3 ey3
  refine va_iast hx hb hKn.k hP hD hS 1 0 rfl rfl (by unfold vp_in; decide) dX10_delivers_20 (fun H locs hP hD hS => ?_)
  obtain ⟨q4, eq4⟩ : ∃ z : qS, z = up2 q2 1 14 y3 := ⟨_, rfl⟩
  have hP : va_P G.1 vwCl (wM G a q4 ++ R) H := by rw [eq4]; exact hP
  have hD : va_D A (wM G a q4 ++ R) := by rw [eq4]; exact hD
  have h := h q4 eq4
  refine lv_aload_n hx hb dX10_delivers_21 rfl (lv_at hl 1 rfl) ?_
  refine va_get (D := G.1) (ci := 10) (v := .ref (a 1)) (C := RX10) (T := TX10) (N := 15) hx hb hts iX10_delivers_X10 hown hKn.k hP 0 rfl rfl 1 (by decide) (hts _ lX10_delivers_f7) (fun _ h9 => h9) rfl dX10_delivers_22 ?_
  refine lv_bipush (v := (15 : Int32)) hx hb dX10_delivers_25 (by decide) ?_
  refine lv_dup2_11 hx hb dX10_delivers_27 rfl rfl ?_
  refine va_iald hx hb hKn.k hP 1 0 rfl rfl (by unfold vp_in; decide) dX10_delivers_28 ?_
  refine lv_iload_n hx hb dX10_delivers_29 rfl (lv_at hl 0 rfl) ?_
  refine lv_aload_n hx hb dX10_delivers_30 rfl (lv_at hl 1 rfl) ?_
  refine va_get (D := G.1) (ci := 10) (v := .int (q4 0 9)) (C := RX10) (T := TX10) (N := 15) hx hb hts iX10_delivers_X10 hown hKn.k hP 0 rfl rfl 9 (by decide) (hts _ lX10_delivers_f46) (fun _ h9 => h9) rfl dX10_delivers_31 ?_
  refine lv_isub hx hb dX10_delivers_34 ?_
  refine lv_aload_n hx hb dX10_delivers_35 rfl (lv_at hl 1 rfl) ?_
  refine va_get (D := G.1) (ci := 10) (v := .int (q4 0 10)) (C := RX10) (T := TX10) (N := 15) hx hb hts iX10_delivers_X10 hown hKn.k hP 0 rfl rfl 10 (by decide) (hts _ lX10_delivers_f49) (fun _ h9 => h9) rfl dX10_delivers_36 ?_
  refine lv_isub hx hb dX10_delivers_39 ?_
  refine lv_isub hx hb dX10_delivers_40 ?_
  refine lv_topi (fun y5 ey5 => ?_)
  have h := h y5 ey5
  refine va_iast hx hb hKn.k hP hD hS 1 0 rfl rfl (by unfold vp_in; decide) dX10_delivers_41 (fun H locs hP hD hS => ?_)
  obtain ⟨q6, eq6⟩ : ∃ z : qS, z = up2 q4 1 15 y5 := ⟨_, rfl⟩
  have hP : va_P G.1 vwCl (wM G a q6 ++ R) H := by rw [eq6]; exact hP
  have hD : va_D A (wM G a q6 ++ R) := by rw [eq6]; exact hD
  have h := h q6 eq6
  refine lv_aload_n hx hb dX10_delivers_42 rfl (lv_at hl 1 rfl) ?_
  refine va_get (D := G.1) (ci := 10) (v := .ref (a 1)) (C := RX10) (T := TX10) (N := 15) hx hb hts iX10_delivers_X10 hown hKn.k hP 0 rfl rfl 1 (by decide) (hts _ lX10_delivers_f7) (fun _ h9 => h9) rfl dX10_delivers_43 ?_
  refine lv_bipush (v := (16 : Int32)) hx hb dX10_delivers_46 (by decide) ?_
  refine lv_dup2_11 hx hb dX10_delivers_48 rfl rfl ?_
  refine va_iald hx hb hKn.k hP 1 0 rfl rfl (by unfold vp_in; decide) dX10_delivers_49 ?_
  refine lv_aload_n hx hb dX10_delivers_50 rfl (lv_at hl 1 rfl) ?_
  refine va_get (D := G.1) (ci := 10) (v := .int (q6 0 10)) (C := RX10) (T := TX10) (N := 15) hx hb hts iX10_delivers_X10 hown hKn.k hP 0 rfl rfl 10 (by decide) (hts _ lX10_delivers_f49) (fun _ h9 => h9) rfl dX10_delivers_51 ?_
  refine lv_isub hx hb dX10_delivers_54 ?_
  refine lv_topi (fun y7 ey7 => ?_)
  have h := h y7 ey7
  refine va_iast hx hb hKn.k hP hD hS 1 0 rfl rfl (by unfold vp_in; decide) dX10_delivers_55 (fun H locs hP hD hS => ?_)
  obtain ⟨q8, eq8⟩ : ∃ z : qS, z = up2 q6 1 16 y7 := ⟨_, rfl⟩
  have hP : va_P G.1 vwCl (wM G a q8 ++ R) H := by rw [eq8]; exact hP
  have hD : va_D A (wM G a q8 ++ R) := by rw [eq8]; exact hD
  have h := h q8 eq8
  refine lv_aload_n hx hb dX10_delivers_56 rfl (lv_at hl 1 rfl) ?_
  refine va_get (D := G.1) (ci := 10) (v := .ref (a 1)) (C := RX10) (T := TX10) (N := 15) hx hb hts iX10_delivers_X10 hown hKn.k hP 0 rfl rfl 1 (by decide) (hts _ lX10_delivers_f7) (fun _ h9 => h9) rfl dX10_delivers_57 ?_
  refine lv_bipush (v := (12 : Int32)) hx hb dX10_delivers_60 (by decide) ?_
  refine lv_dup2_11 hx hb dX10_delivers_62 rfl rfl ?_
  refine va_iald hx hb hKn.k hP 1 0 rfl rfl (by unfold vp_in; decide) dX10_delivers_63 ?_
  refine lv_iload_n hx hb dX10_delivers_64 rfl (lv_at hl 0 rfl) ?_
  refine lv_aload_n hx hb dX10_delivers_65 rfl (lv_at hl 1 rfl) ?_
  refine lv_iload_n hx hb dX10_delivers_66 rfl (lv_at hl 2 rfl) ?_
  refine lv_iconst (v := (5 : Int32)) hx hb dX10_delivers_67 (by decide) ?_
  refine qc_vi (As := [.int p0, .int (5 : Int32)]) (rest := [.int r1, .int (q8 1 12), .int (12 : Int32), .ref (a 1)]) ⟨hx, hb, hml, hown, hts⟩ (mX10_asks l G _ _ a q8 _ p0 (5 : Int32)) (cwV 2 hts gX10_delivers_X10_asks rfl rfl rfl (by decide +kernel) ⟨Nat.le_of_ble_eq_true rfl, Nat.le_of_ble_eq_true rfl⟩) hP hD hS hA hKn 0 10 rfl rfl rfl h rfl hl.1 rfl (Nat.le_of_ble_eq_true rfl) dX10_delivers_68 ⟨Nat.zero_le _, Nat.zero_le _⟩ (fun r9 q10 H locs h hP hD hS => ?_)
  have hP : va_P G.1 vwCl (wM G a q10 ++ R) H := hP
  have hD : va_D A (wM G a q10 ++ R) := hD
  refine lv_imul hx hb dX10_delivers_71 ?_
  refine lv_iadd hx hb dX10_delivers_72 ?_
  refine lv_topi (fun y11 ey11 => ?_)
  have h := h y11 ey11
  refine va_iast hx hb hKn.k hP hD hS 1 0 rfl rfl (by unfold vp_in; decide) dX10_delivers_73 (fun H locs hP hD hS => ?_)
  obtain ⟨q12, eq12⟩ : ∃ z : qS, z = up2 q10 1 12 y11 := ⟨_, rfl⟩
  have hP : va_P G.1 vwCl (wM G a q12 ++ R) H := by rw [eq12]; exact hP
  have hD : va_D A (wM G a q12 ++ R) := by rw [eq12]; exact hD
  have h := h q12 eq12
  refine lv_aload_n hx hb dX10_delivers_74 rfl (lv_at hl 1 rfl) ?_
  refine va_get (D := G.1) (ci := 10) (v := .ref (a 1)) (C := RX10) (T := TX10) (N := 15) hx hb hts iX10_delivers_X10 hown hKn.k hP 0 rfl rfl 1 (by decide) (hts _ lX10_delivers_f7) (fun _ h9 => h9) rfl dX10_delivers_75 ?_
  refine lv_bipush (v := (11 : Int32)) hx hb dX10_delivers_78 (by decide) ?_
  refine lv_dup2_11 hx hb dX10_delivers_80 rfl rfl ?_
  refine va_iald hx hb hKn.k hP 1 0 rfl rfl (by unfold vp_in; decide) dX10_delivers_81 ?_
  refine lv_iconst (v := (1 : Int32)) hx hb dX10_delivers_82 (by decide) ?_
  refine lv_iadd hx hb dX10_delivers_83 ?_
  refine lv_topi (fun y13 ey13 => ?_)
  have h := h y13 ey13
  refine va_iast hx hb hKn.k hP hD hS 1 0 rfl rfl (by unfold vp_in; decide) dX10_delivers_84 (fun H locs hP hD hS => ?_)
  obtain ⟨q14, eq14⟩ : ∃ z : qS, z = up2 q12 1 11 y13 := ⟨_, rfl⟩
  have hP : va_P G.1 vwCl (wM G a q14 ++ R) H := by rw [eq14]; exact hP
  have hD : va_D A (wM G a q14 ++ R) := by rw [eq14]; exact hD
  have h := h q14 eq14
  refine lv_aload_n hx hb dX10_delivers_85 rfl (lv_at hl 1 rfl) ?_
  refine lv_iload_n hx hb dX10_delivers_86 rfl (lv_at hl 2 rfl) ?_
  refine qc_vv (As := [.int p0]) (rest := []) ⟨hx, hb, hml, hown, hts⟩ (mX10_dropsContract l G _ _ a q14 _ p0) (cwV 1 hts gX10_delivers_X10_dropsContract rfl rfl rfl (by decide +kernel) ⟨Nat.le_of_ble_eq_true rfl, Nat.le_of_ble_eq_true rfl⟩) hP hD hS hA hKn 0 10 rfl rfl rfl h rfl hl.1 rfl (Nat.le_of_ble_eq_true rfl) dX10_delivers_87 ⟨Nat.zero_le _, Nat.zero_le _⟩ (fun q16 H locs h hP hD hS => ?_)
  have hP : va_P G.1 vwCl (wM G a q16 ++ R) H := hP
  have hD : va_D A (wM G a q16 ++ R) := hD
  exact hret _ _ _ _ _ h hP hD hS dX10_delivers_90
