abbrev rmX10_capacity : Room := { frames := 0, cells := 0, slots := 0, locals := 0 }
theorem lX10_capacity_f7 : Cond.fieldLink RX10 7 "QuarryBlendsModel" "s" "[I" ∈ wsX10_capacity := by decide +kernel
theorem iX10_capacity_X10 : ∀ w ∈ wsX100, w ∈ wsX10_capacity := by decide +kernel
set_option maxHeartbeats 4000000 in
set_option maxRecDepth 100000 in
theorem kX10_capacity_b29 {p : Program} {l : Launch} {e : Env} {s : State} {m : MethodId} {args : Array Value} {below : List Frame} {meth : Method} {c : Code} {G : qG} {A : Nat → Prop} {Qf : State → Prop} {R : va_W} {a : Nat → Nat} {k : Int32 → qS → Prop} (hx : p.tables.exec = Jvm.exec) (hb : c.code = cX10_capacity) (hml : c.maxLocals = 2) (hown : s.vm.findClass RX10 = some m.cls) (hts : ∀ w ∈ wsX10_capacity, w.before args s = true) (hA : ∀ q : Nat, s.heap.size ≤ q → A q) (hKn : qKn G A s s.heap) (hret : ∀ (r : Int32) (q : qS) (H : Heap) (locs : List Loc) (ls : Array Slot) (pc : Nat), k r q → va_P G.1 vwCl (wM G a q ++ R) H → va_D A (wM G a q ++ R) → va_S A s.heap H locs → decode cX10_capacity pc = .ok (.ireturn, 1) → W p l e rmX10_capacity s m args below meth c H locs 0 0 Qf (F0 m pc ls [.int r])) : ∀ (q : qS) (z0 : Int32) (H : Heap) (locs : List Loc) (ls : Array Slot), wX10_capacity_b29 k q z0 → va_P G.1 vwCl (wM G a q ++ R) H → va_D A (wM G a q ++ R) → va_S A s.heap H locs → lv_has ls 2 [] → W p l e rmX10_capacity s m args below meth c H locs 0 0 Qf (F0 m 29 ls [.int z0]) := by
  intro q z0 H locs ls h hP hD hS hl
  unfold wX10_capacity_b29 at h
  exact hret _ _ _ _ _ _ h hP hD hS dX10_capacity_29
set_option maxHeartbeats 4000000 in
set_option maxRecDepth 100000 in
theorem mX10_capacity (l : Launch) (G : qG) (k : Int32 → qS → Prop) (R : va_W) (a : Nat → Nat) (q : qS) (sz : Nat) : Met l yX10_capacity wsX10_capacity rmX10_capacity (qPc G [.ref (a 0)] (wM G a q ++ R) sz (wX10_capacity k q)) (qQi G (wM G a q ++ R) sz (fun (r : Int32) (u : qS) => k r u) (fun (u : qS) => wM G a u ++ R)) 0 0 (va_A (wM G a q ++ R) sz) := by
  refine Met.ofW (cc := cX10_capacity) (maxL := 2) (ret := (some .int)) (by decide) rfl ?_
  intro p e s m args below meth c s₁ B hml hv
  obtain ⟨rfl, hsz, hP, hD0, hKn0, h⟩ := hv
  have hx := B.exec
  have hb := B.bytes
  have hr := B.returns
  have hts := atoms_spec (ws := wsX10_capacity) B.pre
  have hown : s.vm.findClass RX10 = some m.cls := findClass_of_methodNamed B.named
  have hlocks := B.notSynchronized
  subst hsz
  have hD := hD0.self (sz := s.heap.size)
  generalize hAe : va_A (wM G a q ++ R) s.heap.size = A at hD hKn0 ⊢
  have hA : ∀ q : Nat, s.heap.size ≤ q → A q := fun q h => by rw [← hAe]; exact Or.inr h
  have hKn : qKn G A s s.heap := hKn0
  have hS : va_S A s.heap s.heap [] := va_S.rf
  have hret : ∀ (r : Int32) (q' : qS) (H : Heap) (locs : List Loc) (ls : Array Slot) (pc : Nat), k r q' → va_P G.1 vwCl (wM G a q' ++ R) H → va_D A (wM G a q' ++ R) → va_S A s.heap H locs → decode cX10_capacity pc = .ok (.ireturn, 1) → W p l e rmX10_capacity s m #[.ref (a 0)] below meth c H locs 0 0 (MQ below (qQi G (wM G a q ++ R) s.heap.size (fun (r : Int32) (u : qS) => k r u) (fun (u : qS) => wM G a u ++ R)) #[.ref (a 0)] s 0 0 A) (F0 m pc ls [.int r]) := fun r q' H locs ls pc hk hP hD hS hd => W.iret hx hb hr (fun t ht hW => q_ri (u := (q' : qS)) hAe hk hP hD hS ht) hS.2.2 hd
  have hl := lv_entry ([.ref (a 0)]) (n := 2) (Nat.le_of_ble_eq_true rfl)
  rw [lg_entry_eq]
  generalize (lg_sl ([.ref (a 0)]) ++ List.replicate (2 - (lg_sl ([.ref (a 0)])).length) Slot.unset).toArray = ls at hl ⊢
  have hl : lv_has ls 2 [(0, .ref (a 0))] := hl
  unfold wX10_capacity at h
  show W p l e rmX10_capacity s m #[.ref (a 0)] below meth c s.heap [] 0 0 _ _
  refine lv_aload_n hx hb dX10_capacity_0 rfl (lv_at hl 0 rfl) ?_
  refine va_get (D := G.1) (ci := 10) (v := .ref (a 1)) (C := RX10) (T := TX10) (N := 15) hx hb hts iX10_capacity_X10 hown hKn.k hP 0 rfl rfl 1 (by decide) (hts _ lX10_capacity_f7) (fun _ h9 => h9) rfl dX10_capacity_1 ?_
  refine lv_iconst (v := (4 : Int32)) hx hb dX10_capacity_4 (by decide) ?_
  refine va_iald hx hb hKn.k hP 1 0 rfl rfl (by unfold vp_in; decide) dX10_capacity_5 ?_
  refine lv_aload_n hx hb dX10_capacity_6 rfl (lv_at hl 0 rfl) ?_
  refine va_get (D := G.1) (ci := 10) (v := .ref (a 1)) (C := RX10) (T := TX10) (N := 15) hx hb hts iX10_capacity_X10 hown hKn.k hP 0 rfl rfl 1 (by decide) (hts _ lX10_capacity_f7) (fun _ h9 => h9) rfl dX10_capacity_7 ?_
  refine lv_bipush (v := (10 : Int32)) hx hb dX10_capacity_10 (by decide) ?_
  refine va_iald hx hb hKn.k hP 1 0 rfl rfl (by unfold vp_in; decide) dX10_capacity_12 ?_
  refine lv_sipush (v := (1000 : Int32)) hx hb dX10_capacity_13 (by decide) ?_
  refine lv_idiv hx hb dX10_capacity_16 (by decide) ?_
  refine lv_isub hx hb dX10_capacity_17 ?_
  refine lv_topi (fun y1 ey1 => ?_)
  have h := h y1 ey1
  refine lv_istore_n (lv' := [(1, .int y1), (0, .ref (a 0))]) hx hb dX10_capacity_18 rfl hl (by decide) rfl (fun ls hl => ?_)
  refine lv_iload_n hx hb dX10_capacity_19 rfl (lv_at hl 0 rfl) ?_
  refine lv_iconst (v := (1 : Int32)) hx hb dX10_capacity_20 (by decide) ?_
  refine lv_icmp_ge (tgt := 28) hx hb dX10_capacity_21 (by decide) (fun c1 => ?_) (fun c1 => ?_)
  · have h := h.1 c1
    refine lv_iload_n hx hb dX10_capacity_28 rfl (lv_at hl 0 rfl) ?_
    exact kX10_capacity_b29 hx hb hml hown hts hA hKn hret q y1 _ _ _ h hP hD hS (lv_sub hl [] rfl)
  · have h := h.2 c1
    refine lv_iconst (v := (1 : Int32)) hx hb dX10_capacity_24 (by decide) ?_
    refine lv_goto (tgt := 29) hx hb dX10_capacity_25 (by decide) ?_
    exact kX10_capacity_b29 hx hb hml hown hts hA hKn hret q (1 : Int32) _ _ _ h hP hD hS (lv_sub hl [] rfl)
abbrev rmX10_inFront : Room := { frames := 0, cells := 0, slots := 0, locals := 0 }
theorem lX10_inFront_f7 : Cond.fieldLink RX10 7 "QuarryBlendsModel" "s" "[I" ∈ wsX10_inFront := by decide +kernel
theorem iX10_inFront_X10 : ∀ w ∈ wsX100, w ∈ wsX10_inFront := by decide +kernel
set_option maxHeartbeats 4000000 in
set_option maxRecDepth 100000 in
theorem kX10_inFront_b4 {p : Program} {l : Launch} {e : Env} {s : State} {m : MethodId} {args : Array Value} {below : List Frame} {meth : Method} {c : Code} {G : qG} {A : Nat → Prop} {Qf : State → Prop} {R : va_W} {a : Nat → Nat} {k : Int32 → qS → Prop} (hx : p.tables.exec = Jvm.exec) (hb : c.code = cX10_inFront) (hml : c.maxLocals = 3) (hown : s.vm.findClass RX10 = some m.cls) (hts : ∀ w ∈ wsX10_inFront, w.before args s = true) (hA : ∀ q : Nat, s.heap.size ≤ q → A q) (hKn : qKn G A s s.heap) (hret : ∀ (r : Int32) (q : qS) (H : Heap) (locs : List Loc) (ls : Array Slot) (pc : Nat), k r q → va_P G.1 vwCl (wM G a q ++ R) H → va_D A (wM G a q ++ R) → va_S A s.heap H locs → decode cX10_inFront pc = .ok (.ireturn, 1) → W p l e rmX10_inFront s m args below meth c H locs 0 0 Qf (F0 m pc ls [.int r])) : ∀ (n : Nat) (q : qS) (x1 : Int32) (x2 : Int32) (H : Heap) (locs : List Loc) (ls : Array Slot), wX10_inFront_b4 k n q x1 x2 → va_P G.1 vwCl (wM G a q ++ R) H → va_D A (wM G a q ++ R) → va_S A s.heap H locs → lv_has ls 3 [(0, .ref (a 0)), (1, .int x1), (2, .int x2)] → W p l e rmX10_inFront s m args below meth c H locs 0 0 Qf (F0 m 4 ls []) := by
  intro n
  induction n with
  | zero => intros; rename_i h _ _ _ _; exact h.elim
  | succ n ih =>
    intro q x1 x2 H locs ls h hP hD hS hl
    unfold wX10_inFront_b4 at h
    refine lv_iload_n hx hb dX10_inFront_4 rfl (lv_at hl 2 rfl) ?_
    refine lv_bipush (v := (10 : Int32)) hx hb dX10_inFront_5 (by decide) ?_
    refine lv_icmp_ge (tgt := 28) hx hb dX10_inFront_7 (by decide) (fun c1 => ?_) (fun c1 => ?_)
    · have h := h.1 c1
      refine lv_iload_n hx hb dX10_inFront_28 rfl (lv_at hl 1 rfl) ?_
      exact hret _ _ _ _ _ _ h hP hD hS dX10_inFront_29
    · have h := h.2 c1
      refine lv_iload_n hx hb dX10_inFront_10 rfl (lv_at hl 1 rfl) ?_
      refine lv_aload_n hx hb dX10_inFront_11 rfl (lv_at hl 0 rfl) ?_
      refine va_get (D := G.1) (ci := 10) (v := .ref (a 1)) (C := RX10) (T := TX10) (N := 15) hx hb hts iX10_inFront_X10 hown hKn.k hP 0 rfl rfl 1 (by decide) (hts _ lX10_inFront_f7) (fun _ h9 => h9) rfl dX10_inFront_12 ?_
      refine lv_bipush (v := (16 : Int32)) hx hb dX10_inFront_15 (by decide) ?_
      refine lv_iload_n hx hb dX10_inFront_17 rfl (lv_at hl 2 rfl) ?_
      refine lv_iadd hx hb dX10_inFront_18 ?_
      obtain ⟨hin, h⟩ := h
      refine va_iald hx hb hKn.k hP 1 0 rfl rfl hin dX10_inFront_19 ?_
      refine lv_iadd hx hb dX10_inFront_20 ?_
      refine lv_topi (fun y1 ey1 => ?_)
      have h := h y1 ey1
      refine lv_istore_n (lv' := [(1, .int y1), (0, .ref (a 0)), (2, .int x2)]) hx hb dX10_inFront_21 rfl hl (by decide) rfl (fun ls hl => ?_)
      obtain ⟨y2, ey2⟩ : ∃ z : Int32, z = x2 + (1 : Int32) := ⟨_, rfl⟩
      have h := h y2 ey2
      refine lv_iinc (v := y2) (lv' := [(2, .int y2), (1, .int y1), (0, .ref (a 0))]) hx hb dX10_inFront_22 hl (k := 2) rfl (by rw [ey2]; rfl) (by decide) rfl (fun ls hl => ?_)
      refine lv_goto (tgt := 4) hx hb dX10_inFront_25 (by decide) ?_
      exact ih q y1 y2 _ _ _ h hP hD hS (lv_sub hl [2, 1, 0] rfl)
set_option maxHeartbeats 4000000 in
set_option maxRecDepth 100000 in
theorem mX10_inFront (l : Launch) (G : qG) (k : Int32 → qS → Prop) (R : va_W) (a : Nat → Nat) (q : qS) (sz : Nat) : Met l yX10_inFront wsX10_inFront rmX10_inFront (qPc G [.ref (a 0)] (wM G a q ++ R) sz (wX10_inFront k q)) (qQi G (wM G a q ++ R) sz (fun (r : Int32) (u : qS) => k r u) (fun (u : qS) => wM G a u ++ R)) 0 0 (va_A (wM G a q ++ R) sz) := by
  refine Met.ofW (cc := cX10_inFront) (maxL := 3) (ret := (some .int)) (by decide) rfl ?_
  intro p e s m args below meth c s₁ B hml hv
  obtain ⟨rfl, hsz, hP, hD0, hKn0, h⟩ := hv
  have hx := B.exec
  have hb := B.bytes
  have hr := B.returns
  have hts := atoms_spec (ws := wsX10_inFront) B.pre
  have hown : s.vm.findClass RX10 = some m.cls := findClass_of_methodNamed B.named
  have hlocks := B.notSynchronized
  subst hsz
  have hD := hD0.self (sz := s.heap.size)
  generalize hAe : va_A (wM G a q ++ R) s.heap.size = A at hD hKn0 ⊢
  have hA : ∀ q : Nat, s.heap.size ≤ q → A q := fun q h => by rw [← hAe]; exact Or.inr h
  have hKn : qKn G A s s.heap := hKn0
  have hS : va_S A s.heap s.heap [] := va_S.rf
  have hret : ∀ (r : Int32) (q' : qS) (H : Heap) (locs : List Loc) (ls : Array Slot) (pc : Nat), k r q' → va_P G.1 vwCl (wM G a q' ++ R) H → va_D A (wM G a q' ++ R) → va_S A s.heap H locs → decode cX10_inFront pc = .ok (.ireturn, 1) → W p l e rmX10_inFront s m #[.ref (a 0)] below meth c H locs 0 0 (MQ below (qQi G (wM G a q ++ R) s.heap.size (fun (r : Int32) (u : qS) => k r u) (fun (u : qS) => wM G a u ++ R)) #[.ref (a 0)] s 0 0 A) (F0 m pc ls [.int r]) := fun r q' H locs ls pc hk hP hD hS hd => W.iret hx hb hr (fun t ht hW => q_ri (u := (q' : qS)) hAe hk hP hD hS ht) hS.2.2 hd
  have hl := lv_entry ([.ref (a 0)]) (n := 3) (Nat.le_of_ble_eq_true rfl)
  rw [lg_entry_eq]
  generalize (lg_sl ([.ref (a 0)]) ++ List.replicate (3 - (lg_sl ([.ref (a 0)])).length) Slot.unset).toArray = ls at hl ⊢
  have hl : lv_has ls 3 [(0, .ref (a 0))] := hl
  unfold wX10_inFront at h
  show W p l e rmX10_inFront s m #[.ref (a 0)] below meth c s.heap [] 0 0 _ _
  refine lv_iconst (v := (0 : Int32)) hx hb dX10_inFront_0 (by decide) ?_
  refine lv_istore_n (lv' := [(1, .int (0 : Int32)), (0, .ref (a 0))]) hx hb dX10_inFront_1 rfl hl (by decide) rfl (fun ls hl => ?_)
  refine lv_iconst (v := (1 : Int32)) hx hb dX10_inFront_2 (by decide) ?_
  refine lv_istore_n (lv' := [(2, .int (1 : Int32)), (1, .int (0 : Int32)), (0, .ref (a 0))]) hx hb dX10_inFront_3 rfl hl (by decide) rfl (fun ls hl => ?_)
  obtain ⟨n3, h⟩ := h
  exact kX10_inFront_b4 hx hb hml hown hts hA hKn hret n3 q (0 : Int32) (1 : Int32) _ _ _ h hP hD hS (lv_sub hl [2, 1, 0] rfl)
abbrev rmX10_fullest : Room := { frames := 1, cells := 0, slots := 0, locals := 22 }
theorem lX10_fullest_f7 : Cond.fieldLink RX10 7 "QuarryBlendsModel" "s" "[I" ∈ wsX10_fullest := by decide +kernel
theorem iX10_fullest_X10 : ∀ w ∈ wsX100, w ∈ wsX10_fullest := by decide +kernel
set_option maxHeartbeats 4000000 in
set_option maxRecDepth 100000 in
theorem kX10_fullest_b51 {p : Program} {l : Launch} {e : Env} {s : State} {m : MethodId} {args : Array Value} {below : List Frame} {meth : Method} {c : Code} {G : qG} {A : Nat → Prop} {Qf : State → Prop} {R : va_W} {a : Nat → Nat} {k : Int32 → qS → Prop} (hx : p.tables.exec = Jvm.exec) (hb : c.code = cX10_fullest) (hml : c.maxLocals = 3) (hown : s.vm.findClass RX10 = some m.cls) (hts : ∀ w ∈ wsX10_fullest, w.before args s = true) (hA : ∀ q : Nat, s.heap.size ≤ q → A q) (hKn : qKn G A s s.heap) (hret : ∀ (r : Int32) (q : qS) (H : Heap) (locs : List Loc) (ls : Array Slot) (pc : Nat), k r q → va_P G.1 vwCl (wM G a q ++ R) H → va_D A (wM G a q ++ R) → va_S A s.heap H locs → decode cX10_fullest pc = .ok (.ireturn, 1) → W p l e rmX10_fullest s m args below meth c H locs 0 0 Qf (F0 m pc ls [.int r])) {kb5 : qS → Int32 → Int32 → Prop} (hkb5 : ∀ (q : qS) (x1 : Int32) (x2 : Int32) (H : Heap) (locs : List Loc) (ls : Array Slot), kb5 q x1 x2 → va_P G.1 vwCl (wM G a q ++ R) H → va_D A (wM G a q ++ R) → va_S A s.heap H locs → lv_has ls 3 [(0, .ref (a 0)), (1, .int x1), (2, .int x2)] → W p l e rmX10_fullest s m args below meth c H locs 0 0 Qf (F0 m 5 ls [])) : ∀ (q : qS) (x2 : Int32) (z0 : Int32) (H : Heap) (locs : List Loc) (ls : Array Slot), wX10_fullest_b51 k kb5 q x2 z0 → va_P G.1 vwCl (wM G a q ++ R) H → va_D A (wM G a q ++ R) → va_S A s.heap H locs → lv_has ls 3 [(0, .ref (a 0)), (2, .int x2)] → W p l e rmX10_fullest s m args below meth c H locs 0 0 Qf (F0 m 51 ls [.int z0]) := by
  intro q x2 z0 H locs ls h hP hD hS hl
  unfold wX10_fullest_b51 at h
  refine lv_istore_n (lv' := [(1, .int z0), (0, .ref (a 0)), (2, .int x2)]) hx hb dX10_fullest_51 rfl hl (by decide) rfl (fun ls hl => ?_)
  obtain ⟨y1, ey1⟩ : ∃ z : Int32, z = x2 + (1 : Int32) := ⟨_, rfl⟩
  have h := h y1 ey1
  refine lv_iinc (v := y1) (lv' := [(2, .int y1), (1, .int z0), (0, .ref (a 0))]) hx hb dX10_fullest_52 hl (k := 2) rfl (by rw [ey1]; rfl) (by decide) rfl (fun ls hl => ?_)
  refine lv_goto (tgt := 5) hx hb dX10_fullest_55 (by decide) ?_
  exact hkb5 q z0 y1 _ _ _ h hP hD hS (lv_sub hl [2, 1, 0] rfl)
set_option maxHeartbeats 4000000 in
set_option maxRecDepth 100000 in
theorem kX10_fullest_b46 {p : Program} {l : Launch} {e : Env} {s : State} {m : MethodId} {args : Array Value} {below : List Frame} {meth : Method} {c : Code} {G : qG} {A : Nat → Prop} {Qf : State → Prop} {R : va_W} {a : Nat → Nat} {k : Int32 → qS → Prop} (hx : p.tables.exec = Jvm.exec) (hb : c.code = cX10_fullest) (hml : c.maxLocals = 3) (hown : s.vm.findClass RX10 = some m.cls) (hts : ∀ w ∈ wsX10_fullest, w.before args s = true) (hA : ∀ q : Nat, s.heap.size ≤ q → A q) (hKn : qKn G A s s.heap) (hret : ∀ (r : Int32) (q : qS) (H : Heap) (locs : List Loc) (ls : Array Slot) (pc : Nat), k r q → va_P G.1 vwCl (wM G a q ++ R) H → va_D A (wM G a q ++ R) → va_S A s.heap H locs → decode cX10_fullest pc = .ok (.ireturn, 1) → W p l e rmX10_fullest s m args below meth c H locs 0 0 Qf (F0 m pc ls [.int r])) {kb5 : qS → Int32 → Int32 → Prop} (hkb5 : ∀ (q : qS) (x1 : Int32) (x2 : Int32) (H : Heap) (locs : List Loc) (ls : Array Slot), kb5 q x1 x2 → va_P G.1 vwCl (wM G a q ++ R) H → va_D A (wM G a q ++ R) → va_S A s.heap H locs → lv_has ls 3 [(0, .ref (a 0)), (1, .int x1), (2, .int x2)] → W p l e rmX10_fullest s m args below meth c H locs 0 0 Qf (F0 m 5 ls [])) : ∀ (q : qS) (x2 : Int32) (H : Heap) (locs : List Loc) (ls : Array Slot), wX10_fullest_b46 k kb5 q x2 → va_P G.1 vwCl (wM G a q ++ R) H → va_D A (wM G a q ++ R) → va_S A s.heap H locs → lv_has ls 3 [(0, .ref (a 0)), (2, .int x2)] → W p l e rmX10_fullest s m args below meth c H locs 0 0 Qf (F0 m 46 ls []) := by
  intro q x2 H locs ls h hP hD hS hl
  unfold wX10_fullest_b46 at h
  refine lv_iload_n hx hb dX10_fullest_46 rfl (lv_at hl 1 rfl) ?_
  refine lv_goto (tgt := 51) hx hb dX10_fullest_47 (by decide) ?_
  exact kX10_fullest_b51 hx hb hml hown hts hA hKn hret hkb5 q x2 x2 _ _ _ h hP hD hS (lv_sub hl [0, 1] rfl)
set_option maxHeartbeats 4000000 in
set_option maxRecDepth 100000 in
theorem kX10_fullest_b50 {p : Program} {l : Launch} {e : Env} {s : State} {m : MethodId} {args : Array Value} {below : List Frame} {meth : Method} {c : Code} {G : qG} {A : Nat → Prop} {Qf : State → Prop} {R : va_W} {a : Nat → Nat} {k : Int32 → qS → Prop} (hx : p.tables.exec = Jvm.exec) (hb : c.code = cX10_fullest) (hml : c.maxLocals = 3) (hown : s.vm.findClass RX10 = some m.cls) (hts : ∀ w ∈ wsX10_fullest, w.before args s = true) (hA : ∀ q : Nat, s.heap.size ≤ q → A q) (hKn : qKn G A s s.heap) (hret : ∀ (r : Int32) (q : qS) (H : Heap) (locs : List Loc) (ls : Array Slot) (pc : Nat), k r q → va_P G.1 vwCl (wM G a q ++ R) H → va_D A (wM G a q ++ R) → va_S A s.heap H locs → decode cX10_fullest pc = .ok (.ireturn, 1) → W p l e rmX10_fullest s m args below meth c H locs 0 0 Qf (F0 m pc ls [.int r])) {kb5 : qS → Int32 → Int32 → Prop} (hkb5 : ∀ (q : qS) (x1 : Int32) (x2 : Int32) (H : Heap) (locs : List Loc) (ls : Array Slot), kb5 q x1 x2 → va_P G.1 vwCl (wM G a q ++ R) H → va_D A (wM G a q ++ R) → va_S A s.heap H locs → lv_has ls 3 [(0, .ref (a 0)), (1, .int x1), (2, .int x2)] → W p l e rmX10_fullest s m args below meth c H locs 0 0 Qf (F0 m 5 ls [])) : ∀ (q : qS) (x1 : Int32) (x2 : Int32) (H : Heap) (locs : List Loc) (ls : Array Slot), wX10_fullest_b50 k kb5 q x1 x2 → va_P G.1 vwCl (wM G a q ++ R) H → va_D A (wM G a q ++ R) → va_S A s.heap H locs → lv_has ls 3 [(0, .ref (a 0)), (1, .int x1), (2, .int x2)] → W p l e rmX10_fullest s m args below meth c H locs 0 0 Qf (F0 m 50 ls []) := by
  intro q x1 x2 H locs ls h hP hD hS hl
  unfold wX10_fullest_b50 at h
  refine lv_iload_n hx hb dX10_fullest_50 rfl (lv_at hl 1 rfl) ?_
  exact kX10_fullest_b51 hx hb hml hown hts hA hKn hret hkb5 q x2 x1 _ _ _ h hP hD hS (lv_sub hl [0, 2] rfl)
set_option maxHeartbeats 4000000 in
set_option maxRecDepth 100000 in
theorem kX10_fullest_b5 {p : Program} {l : Launch} {e : Env} {s : State} {m : MethodId} {args : Array Value} {below : List Frame} {meth : Method} {c : Code} {G : qG} {A : Nat → Prop} {Qf : State → Prop} {R : va_W} {a : Nat → Nat} {k : Int32 → qS → Prop} (hx : p.tables.exec = Jvm.exec) (hb : c.code = cX10_fullest) (hml : c.maxLocals = 3) (hown : s.vm.findClass RX10 = some m.cls) (hts : ∀ w ∈ wsX10_fullest, w.before args s = true) (hA : ∀ q : Nat, s.heap.size ≤ q → A q) (hKn : qKn G A s s.heap) (hret : ∀ (r : Int32) (q : qS) (H : Heap) (locs : List Loc) (ls : Array Slot) (pc : Nat), k r q → va_P G.1 vwCl (wM G a q ++ R) H → va_D A (wM G a q ++ R) → va_S A s.heap H locs → decode cX10_fullest pc = .ok (.ireturn, 1) → W p l e rmX10_fullest s m args below meth c H locs 0 0 Qf (F0 m pc ls [.int r])) : ∀ (n : Nat) (q : qS) (x1 : Int32) (x2 : Int32) (H : Heap) (locs : List Loc) (ls : Array Slot), wX10_fullest_b5 k n q x1 x2 → va_P G.1 vwCl (wM G a q ++ R) H → va_D A (wM G a q ++ R) → va_S A s.heap H locs → lv_has ls 3 [(0, .ref (a 0)), (1, .int x1), (2, .int x2)] → W p l e rmX10_fullest s m args below meth c H locs 0 0 Qf (F0 m 5 ls []) := by
  intro n
  induction n with
  | zero => intros; rename_i h _ _ _ _; exact h.elim
  | succ n ih =>
    intro q x1 x2 H locs ls h hP hD hS hl
    unfold wX10_fullest_b5 at h
    refine lv_iload_n hx hb dX10_fullest_5 rfl (lv_at hl 2 rfl) ?_
    refine lv_aload_n hx hb dX10_fullest_6 rfl (lv_at hl 0 rfl) ?_
    refine va_get (D := G.1) (ci := 10) (v := .ref (a 1)) (C := RX10) (T := TX10) (N := 15) hx hb hts iX10_fullest_X10 hown hKn.k hP 0 rfl rfl 1 (by decide) (hts _ lX10_fullest_f7) (fun _ h9 => h9) rfl dX10_fullest_7 ?_
    refine lv_bipush (v := (7 : Int32)) hx hb dX10_fullest_10 (by decide) ?_
    refine va_iald hx hb hKn.k hP 1 0 rfl rfl (by unfold vp_in; decide) dX10_fullest_12 ?_
    refine lv_icmp_ge (tgt := 58) hx hb dX10_fullest_13 (by decide) (fun c1 => ?_) (fun c1 => ?_)
    · have h := h.1 c1
      refine lv_iload_n hx hb dX10_fullest_58 rfl (lv_at hl 1 rfl) ?_
      exact hret _ _ _ _ _ _ h hP hD hS dX10_fullest_59
    · have h := h.2 c1
      refine lv_aload_n hx hb dX10_fullest_16 rfl (lv_at hl 0 rfl) ?_
      refine lv_iload_n hx hb dX10_fullest_17 rfl (lv_at hl 2 rfl) ?_
      refine lv_iconst (v := (0 : Int32)) hx hb dX10_fullest_18 (by decide) ?_
      refine qc_vi (As := [.int x2, .int (0 : Int32)]) (rest := []) ⟨hx, hb, hml, hown, hts⟩ (mX10_faceOf l G _ _ a q _ x2 (0 : Int32)) (cwV 2 hts gX10_fullest_X10_faceOf rfl rfl rfl (by decide +kernel) ⟨Nat.le_of_ble_eq_true rfl, Nat.le_of_ble_eq_true rfl⟩) hP hD hS hA hKn 0 10 rfl rfl rfl h rfl hl.1 rfl (Nat.le_of_ble_eq_true rfl) dX10_fullest_19 ⟨Nat.zero_le _, Nat.zero_le _⟩ (fun r2 q3 H locs h hP hD hS => ?_)
      have hP : va_P G.1 vwCl (wM G a q3 ++ R) H := hP
      have hD : va_D A (wM G a q3 ++ R) := hD
      refine lv_if_le (tgt := 50) hx hb dX10_fullest_22 (by decide) (fun c1 => ?_) (fun c1 => ?_)
      · have h := h.1 c1
        exact kX10_fullest_b50 hx hb hml hown hts hA hKn hret ih q3 x1 x2 _ _ _ h hP hD hS (lv_sub hl [0, 1, 2] rfl)
      · have h := h.2 c1
        refine lv_iload_n hx hb dX10_fullest_25 rfl (lv_at hl 1 rfl) ?_
        refine lv_bipush (v := (-6 : Int32)) hx hb dX10_fullest_26 (by decide) ?_
        refine lv_icmp_eq (tgt := 46) hx hb dX10_fullest_28 (by decide) (fun c1 => ?_) (fun c1 => ?_)
        · have h := h.1 c1
          exact kX10_fullest_b46 hx hb hml hown hts hA hKn hret ih q3 x2 _ _ _ h hP hD hS (lv_sub hl [0, 2] rfl)
        · have h := h.2 c1
          refine lv_aload_n hx hb dX10_fullest_31 rfl (lv_at hl 0 rfl) ?_
          refine lv_iload_n hx hb dX10_fullest_32 rfl (lv_at hl 2 rfl) ?_
          refine lv_iconst (v := (0 : Int32)) hx hb dX10_fullest_33 (by decide) ?_
          refine qc_vi (As := [.int x2, .int (0 : Int32)]) (rest := []) ⟨hx, hb, hml, hown, hts⟩ (mX10_faceOf l G _ _ a q3 _ x2 (0 : Int32)) (cwV 2 hts gX10_fullest_X10_faceOf rfl rfl rfl (by decide +kernel) ⟨Nat.le_of_ble_eq_true rfl, Nat.le_of_ble_eq_true rfl⟩) hP hD hS hA hKn 0 10 rfl rfl rfl h rfl hl.1 rfl (Nat.le_of_ble_eq_true rfl) dX10_fullest_34 ⟨Nat.zero_le _, Nat.zero_le _⟩ (fun r4 q5 H locs h hP hD hS => ?_)
          have hP : va_P G.1 vwCl (wM G a q5 ++ R) H := hP
          have hD : va_D A (wM G a q5 ++ R) := hD
          refine lv_aload_n hx hb dX10_fullest_37 rfl (lv_at hl 0 rfl) ?_
          refine lv_iload_n hx hb dX10_fullest_38 rfl (lv_at hl 1 rfl) ?_
          refine lv_iconst (v := (0 : Int32)) hx hb dX10_fullest_39 (by decide) ?_
          refine qc_vi (As := [.int x1, .int (0 : Int32)]) (rest := [.int r4]) ⟨hx, hb, hml, hown, hts⟩ (mX10_faceOf l G _ _ a q5 _ x1 (0 : Int32)) (cwV 2 hts gX10_fullest_X10_faceOf rfl rfl rfl (by decide +kernel) ⟨Nat.le_of_ble_eq_true rfl, Nat.le_of_ble_eq_true rfl⟩) hP hD hS hA hKn 0 10 rfl rfl rfl h rfl hl.1 rfl (Nat.le_of_ble_eq_true rfl) dX10_fullest_40 ⟨Nat.zero_le _, Nat.zero_le _⟩ (fun r6 q7 H locs h hP hD hS => ?_)
          have hP : va_P G.1 vwCl (wM G a q7 ++ R) H := hP
          have hD : va_D A (wM G a q7 ++ R) := hD
          refine lv_icmp_le (tgt := 50) hx hb dX10_fullest_43 (by decide) (fun c1 => ?_) (fun c1 => ?_)
          · have h := h.1 c1
            exact kX10_fullest_b50 hx hb hml hown hts hA hKn hret ih q7 x1 x2 _ _ _ h hP hD hS (lv_sub hl [0, 1, 2] rfl)
          · have h := h.2 c1
            exact kX10_fullest_b46 hx hb hml hown hts hA hKn hret ih q7 x2 _ _ _ h hP hD hS (lv_sub hl [0, 2] rfl)
set_option maxHeartbeats 4000000 in
set_option maxRecDepth 100000 in
theorem mX10_fullest (l : Launch) (G : qG) (k : Int32 → qS → Prop) (R : va_W) (a : Nat → Nat) (q : qS) (sz : Nat) : Met l yX10_fullest wsX10_fullest rmX10_fullest (qPc G [.ref (a 0)] (wM G a q ++ R) sz (wX10_fullest k q)) (qQi G (wM G a q ++ R) sz (fun (r : Int32) (u : qS) => k r u) (fun (u : qS) => wM G a u ++ R)) 0 0 (va_A (wM G a q ++ R) sz) := by
  refine Met.ofW (cc := cX10_fullest) (maxL := 3) (ret := (some .int)) (by decide) rfl ?_
  intro p e s m args below meth c s₁ B hml hv
  obtain ⟨rfl, hsz, hP, hD0, hKn0, h⟩ := hv
  have hx := B.exec
  have hb := B.bytes
  have hr := B.returns
  have hts := atoms_spec (ws := wsX10_fullest) B.pre
  have hown : s.vm.findClass RX10 = some m.cls := findClass_of_methodNamed B.named
  have hlocks := B.notSynchronized
  subst hsz
  have hD := hD0.self (sz := s.heap.size)
  generalize hAe : va_A (wM G a q ++ R) s.heap.size = A at hD hKn0 ⊢
  have hA : ∀ q : Nat, s.heap.size ≤ q → A q := fun q h => by rw [← hAe]; exact Or.inr h
  have hKn : qKn G A s s.heap := hKn0
  have hS : va_S A s.heap s.heap [] := va_S.rf
  have hret : ∀ (r : Int32) (q' : qS) (H : Heap) (locs : List Loc) (ls : Array Slot) (pc : Nat), k r q' → va_P G.1 vwCl (wM G a q' ++ R) H → va_D A (wM G a q' ++ R) → va_S A s.heap H locs → decode cX10_fullest pc = .ok (.ireturn, 1) → W p l e rmX10_fullest s m #[.ref (a 0)] below meth c H locs 0 0 (MQ below (qQi G (wM G a q ++ R) s.heap.size (fun (r : Int32) (u : qS) => k r u) (fun (u : qS) => wM G a u ++ R)) #[.ref (a 0)] s 0 0 A) (F0 m pc ls [.int r]) := fun r q' H locs ls pc hk hP hD hS hd => W.iret hx hb hr (fun t ht hW => q_ri (u := (q' : qS)) hAe hk hP hD hS ht) hS.2.2 hd
  have hl := lv_entry ([.ref (a 0)]) (n := 3) (Nat.le_of_ble_eq_true rfl)
  rw [lg_entry_eq]
  generalize (lg_sl ([.ref (a 0)]) ++ List.replicate (3 - (lg_sl ([.ref (a 0)])).length) Slot.unset).toArray = ls at hl ⊢
  have hl : lv_has ls 3 [(0, .ref (a 0))] := hl
  unfold wX10_fullest at h
  show W p l e rmX10_fullest s m #[.ref (a 0)] below meth c s.heap [] 0 0 _ _
  refine lv_bipush (v := (-6 : Int32)) hx hb dX10_fullest_0 (by decide) ?_
  refine lv_istore_n (lv' := [(1, .int (-6 : Int32)), (0, .ref (a 0))]) hx hb dX10_fullest_2 rfl hl (by decide) rfl (fun ls hl => ?_)
  refine lv_iconst (v := (0 : Int32)) hx hb dX10_fullest_3 (by decide) ?_
  refine lv_istore_n (lv' := [(2, .int (0 : Int32)), (1, .int (-6 : Int32)), (0, .ref (a 0))]) hx hb dX10_fullest_4 rfl hl (by decide) rfl (fun ls hl => ?_)
  obtain ⟨n8, h⟩ := h
  exact kX10_fullest_b5 hx hb hml hown hts hA hKn hret n8 q (-6 : Int32) (0 : Int32) _ _ _ h hP hD hS (lv_sub hl [2, 1, 0] rfl)
abbrev rmX10_comesBack : Room := { frames := 1, cells := 0, slots := 0, locals := 22 }
theorem lX10_comesBack_f7 : Cond.fieldLink RX10 7 "QuarryBlendsModel" "s" "[I" ∈ wsX10_comesBack := by decide +kernel
theorem iX10_comesBack_X10 : ∀ w ∈ wsX100, w ∈ wsX10_comesBack := by decide +kernel
set_option maxHeartbeats 4000000 in
set_option maxRecDepth 100000 in
theorem kX10_comesBack_b97 {p : Program} {l : Launch} {e : Env} {s : State} {m : MethodId} {args : Array Value} {below : List Frame} {meth : Method} {c : Code} {G : qG} {A : Nat → Prop} {Qf : State → Prop} {R : va_W} {a : Nat → Nat} {k : qS → Prop} (hx : p.tables.exec = Jvm.exec) (hb : c.code = cX10_comesBack) (hml : c.maxLocals = 3) (hown : s.vm.findClass RX10 = some m.cls) (hts : ∀ w ∈ wsX10_comesBack, w.before args s = true) (hA : ∀ q : Nat, s.heap.size ≤ q → A q) (hKn : qKn G A s s.heap) (hret : ∀ (q : qS) (H : Heap) (locs : List Loc) (ls : Array Slot) (pc : Nat), k q → va_P G.1 vwCl (wM G a q ++ R) H → va_D A (wM G a q ++ R) → va_S A s.heap H locs → decode cX10_comesBack pc = .ok (.return_, 1) → W p l e rmX10_comesBack s m args below meth c H locs 0 0 Qf (F0 m pc ls [])) : ∀ (q : qS) (H : Heap) (locs : List Loc) (ls : Array Slot), wX10_comesBack_b97 k q → va_P G.1 vwCl (wM G a q ++ R) H → va_D A (wM G a q ++ R) → va_S A s.heap H locs → lv_has ls 3 [] → W p l e rmX10_comesBack s m args below meth c H locs 0 0 Qf (F0 m 97 ls []) := by
  intro q H locs ls h hP hD hS hl
  unfold wX10_comesBack_b97 at h
  exact hret _ _ _ _ _ h hP hD hS dX10_comesBack_97
set_option maxHeartbeats 4000000 in
set_option maxRecDepth 100000 in
theorem mX10_comesBack (l : Launch) (G : qG) (k : qS → Prop) (R : va_W) (a : Nat → Nat) (q : qS) (sz : Nat) (p0 : Int32) : Met l yX10_comesBack wsX10_comesBack rmX10_comesBack (qPc G [.ref (a 0), .int p0] (wM G a q ++ R) sz (wX10_comesBack k q p0)) (qQv G (wM G a q ++ R) sz (fun (u : qS) => k u) (fun (u : qS) => wM G a u ++ R)) 0 0 (va_A (wM G a q ++ R) sz) := by
  refine Met.ofW (cc := cX10_comesBack) (maxL := 3) (ret := none) (by decide) rfl ?_
  intro p e s m args below meth c s₁ B hml hv
  obtain ⟨rfl, hsz, hP, hD0, hKn0, h⟩ := hv
  have hx := B.exec
  have hb := B.bytes
  have hr := B.returns
  have hts := atoms_spec (ws := wsX10_comesBack) B.pre
  have hown : s.vm.findClass RX10 = some m.cls := findClass_of_methodNamed B.named
  have hlocks := B.notSynchronized
  subst hsz
  have hD := hD0.self (sz := s.heap.size)
  generalize hAe : va_A (wM G a q ++ R) s.heap.size = A at hD hKn0 ⊢
  have hA : ∀ q : Nat, s.heap.size ≤ q → A q := fun q h => by rw [← hAe]; exact Or.inr h
  have hKn : qKn G A s s.heap := hKn0
  have hS : va_S A s.heap s.heap [] := va_S.rf
  have hret : ∀ (q' : qS) (H : Heap) (locs : List Loc) (ls : Array Slot) (pc : Nat), k q' → va_P G.1 vwCl (wM G a q' ++ R) H → va_D A (wM G a q' ++ R) → va_S A s.heap H locs → decode cX10_comesBack pc = .ok (.return_, 1) → W p l e rmX10_comesBack s m #[.ref (a 0), .int p0] below meth c H locs 0 0 (MQ below (qQv G (wM G a q ++ R) s.heap.size (fun (u : qS) => k u) (fun (u : qS) => wM G a u ++ R)) #[.ref (a 0), .int p0] s 0 0 A) (F0 m pc ls []) := fun q' H locs ls pc hk hP hD hS hd => W.vret hx hb hr (fun t ht hW => q_rv (u := (q' : qS)) hAe hk hP hD hS ht) hS.2.2 hd
  have hl := lv_entry ([.ref (a 0), .int p0]) (n := 3) (Nat.le_of_ble_eq_true rfl)
  rw [lg_entry_eq]
  generalize (lg_sl ([.ref (a 0), .int p0]) ++ List.replicate (3 - (lg_sl ([.ref (a 0), .int p0])).length) Slot.unset).toArray = ls at hl ⊢
  have hl : lv_has ls 3 [(0, .ref (a 0)), (1, .int p0)] := hl
  unfold wX10_comesBack at h
  show W p l e rmX10_comesBack s m #[.ref (a 0), .int p0] below meth c s.heap [] 0 0 _ _
  refine lv_bipush (v := (58 : Int32)) hx hb dX10_comesBack_0 (by decide) ?_
  refine lv_iconst (v := (4 : Int32)) hx hb dX10_comesBack_2 (by decide) ?_
  refine lv_iload_n hx hb dX10_comesBack_3 rfl (lv_at hl 1 rfl) ?_
  refine lv_imul hx hb dX10_comesBack_4 ?_
  refine lv_iadd hx hb dX10_comesBack_5 ?_
  refine lv_topi (fun y1 ey1 => ?_)
  have h := h y1 ey1
  refine lv_istore_n (lv' := [(2, .int y1), (0, .ref (a 0)), (1, .int p0)]) hx hb dX10_comesBack_6 rfl hl (by decide) rfl (fun ls hl => ?_)
  refine lv_aload_n hx hb dX10_comesBack_7 rfl (lv_at hl 1 rfl) ?_
  refine va_get (D := G.1) (ci := 10) (v := .ref (a 1)) (C := RX10) (T := TX10) (N := 15) hx hb hts iX10_comesBack_X10 hown hKn.k hP 0 rfl rfl 1 (by decide) (hts _ lX10_comesBack_f7) (fun _ h9 => h9) rfl dX10_comesBack_8 ?_
  refine lv_iload_n hx hb dX10_comesBack_11 rfl (lv_at hl 0 rfl) ?_
  refine lv_iconst (v := (0 : Int32)) hx hb dX10_comesBack_12 (by decide) ?_
  refine lv_iadd hx hb dX10_comesBack_13 ?_
  obtain ⟨hin, h⟩ := h
  refine va_iald hx hb hKn.k hP 1 0 rfl rfl hin dX10_comesBack_14 ?_
  refine lv_if_le (tgt := 97) hx hb dX10_comesBack_15 (by decide) (fun c1 => ?_) (fun c1 => ?_)
  · have h := h.1 c1
    exact kX10_comesBack_b97 hx hb hml hown hts hA hKn hret q _ _ _ h hP hD hS (lv_sub hl [] rfl)
  · have h := h.2 c1
    refine lv_aload_n hx hb dX10_comesBack_18 rfl (lv_at hl 1 rfl) ?_
    refine va_get (D := G.1) (ci := 10) (v := .ref (a 1)) (C := RX10) (T := TX10) (N := 15) hx hb hts iX10_comesBack_X10 hown hKn.k hP 0 rfl rfl 1 (by decide) (hts _ lX10_comesBack_f7) (fun _ h9 => h9) rfl dX10_comesBack_19 ?_
    refine lv_iload_n hx hb dX10_comesBack_22 rfl (lv_at hl 0 rfl) ?_
    refine lv_iconst (v := (2 : Int32)) hx hb dX10_comesBack_23 (by decide) ?_
    refine lv_iadd hx hb dX10_comesBack_24 ?_
    obtain ⟨hin, h⟩ := h
    refine va_iald hx hb hKn.k hP 1 0 rfl rfl hin dX10_comesBack_25 ?_
    refine lv_aload_n hx hb dX10_comesBack_26 rfl (lv_at hl 1 rfl) ?_
    refine va_get (D := G.1) (ci := 10) (v := .ref (a 1)) (C := RX10) (T := TX10) (N := 15) hx hb hts iX10_comesBack_X10 hown hKn.k hP 0 rfl rfl 1 (by decide) (hts _ lX10_comesBack_f7) (fun _ h9 => h9) rfl dX10_comesBack_27 ?_
    refine lv_bipush (v := (6 : Int32)) hx hb dX10_comesBack_30 (by decide) ?_
    refine va_iald hx hb hKn.k hP 1 0 rfl rfl (by unfold vp_in; decide) dX10_comesBack_32 ?_
    refine lv_icmp_ne (tgt := 97) hx hb dX10_comesBack_33 (by decide) (fun c1 => ?_) (fun c1 => ?_)
    · have h := h.1 c1
      exact kX10_comesBack_b97 hx hb hml hown hts hA hKn hret q _ _ _ h hP hD hS (lv_sub hl [] rfl)
    · have h := h.2 c1
      refine lv_aload_n hx hb dX10_comesBack_36 rfl (lv_at hl 1 rfl) ?_
      refine va_get (D := G.1) (ci := 10) (v := .ref (a 1)) (C := RX10) (T := TX10) (N := 15) hx hb hts iX10_comesBack_X10 hown hKn.k hP 0 rfl rfl 1 (by decide) (hts _ lX10_comesBack_f7) (fun _ h9 => h9) rfl dX10_comesBack_37 ?_
      refine lv_bipush (v := (16 : Int32)) hx hb dX10_comesBack_40 (by decide) ?_
      refine lv_aload_n hx hb dX10_comesBack_42 rfl (lv_at hl 1 rfl) ?_
      refine lv_aload_n hx hb dX10_comesBack_43 rfl (lv_at hl 1 rfl) ?_
      refine va_get (D := G.1) (ci := 10) (v := .ref (a 1)) (C := RX10) (T := TX10) (N := 15) hx hb hts iX10_comesBack_X10 hown hKn.k hP 0 rfl rfl 1 (by decide) (hts _ lX10_comesBack_f7) (fun _ h9 => h9) rfl dX10_comesBack_44 ?_
      refine lv_iload_n hx hb dX10_comesBack_47 rfl (lv_at hl 0 rfl) ?_
      refine lv_iconst (v := (0 : Int32)) hx hb dX10_comesBack_48 (by decide) ?_
      refine lv_iadd hx hb dX10_comesBack_49 ?_
      obtain ⟨hin, h⟩ := h
      refine va_iald hx hb hKn.k hP 1 0 rfl rfl hin dX10_comesBack_50 ?_
      refine lv_iconst (v := (1 : Int32)) hx hb dX10_comesBack_51 (by decide) ?_
      refine lv_isub hx hb dX10_comesBack_52 ?_
      refine lv_iconst (v := (1 : Int32)) hx hb dX10_comesBack_53 (by decide) ?_
      refine qc_vi (As := [.int ((q 1 (Int32.toNatClampNeg (y1 + (0 : Int32)))) - (1 : Int32)), .int (1 : Int32)]) (rest := [.int (16 : Int32), .ref (a 1)]) ⟨hx, hb, hml, hown, hts⟩ (mX10_faceOf l G _ _ a q _ ((q 1 (Int32.toNatClampNeg (y1 + (0 : Int32)))) - (1 : Int32)) (1 : Int32)) (cwV 2 hts gX10_comesBack_X10_faceOf rfl rfl rfl (by decide +kernel) ⟨Nat.le_of_ble_eq_true rfl, Nat.le_of_ble_eq_true rfl⟩) hP hD hS hA hKn 0 10 rfl rfl rfl h rfl hl.1 rfl (Nat.le_of_ble_eq_true rfl) dX10_comesBack_54 ⟨Nat.zero_le _, Nat.zero_le _⟩ (fun r2 q3 H locs h hP hD hS => ?_)
      have hP : va_P G.1 vwCl (wM G a q3 ++ R) H := hP
      have hD : va_D A (wM G a q3 ++ R) := hD
      refine lv_iadd hx hb dX10_comesBack_57 ?_
      refine lv_dup2_11 hx hb dX10_comesBack_58 rfl rfl ?_
      obtain ⟨hin, h⟩ := h
      refine va_iald hx hb hKn.k hP 1 0 rfl rfl hin dX10_comesBack_59 ?_
      refine lv_aload_n hx hb dX10_comesBack_60 rfl (lv_at hl 1 rfl) ?_
      refine va_get (D := G.1) (ci := 10) (v := .ref (a 1)) (C := RX10) (T := TX10) (N := 15) hx hb hts iX10_comesBack_X10 hown hKn.k hP 0 rfl rfl 1 (by decide) (hts _ lX10_comesBack_f7) (fun _ h9 => h9) rfl dX10_comesBack_61 ?_
      refine lv_iload_n hx hb dX10_comesBack_64 rfl (lv_at hl 0 rfl) ?_
      refine lv_iconst (v := (1 : Int32)) hx hb dX10_comesBack_65 (by decide) ?_
      refine lv_iadd hx hb dX10_comesBack_66 ?_
      obtain ⟨hin, h⟩ := h
      refine va_iald hx hb hKn.k hP 1 0 rfl rfl hin dX10_comesBack_67 ?_
      refine lv_iadd hx hb dX10_comesBack_68 ?_
      refine lv_topi (fun y4 ey4 => ?_)
      have h := h y4 ey4
      obtain ⟨hin, h⟩ := h
      refine va_iast hx hb hKn.k hP hD hS 1 0 rfl rfl hin dX10_comesBack_69 (fun H locs hP hD hS => ?_)
      obtain ⟨q5, eq5⟩ : ∃ z : qS, z = up2 q3 1 (Int32.toNatClampNeg ((16 : Int32) + r2)) y4 := ⟨_, rfl⟩
      have hP : va_P G.1 vwCl (wM G a q5 ++ R) H := by rw [eq5]; exact hP
      have hD : va_D A (wM G a q5 ++ R) := by rw [eq5]; exact hD
      have h := h q5 eq5
      refine lv_aload_n hx hb dX10_comesBack_70 rfl (lv_at hl 1 rfl) ?_
      refine va_get (D := G.1) (ci := 10) (v := .ref (a 1)) (C := RX10) (T := TX10) (N := 15) hx hb hts iX10_comesBack_X10 hown hKn.k hP 0 rfl rfl 1 (by decide) (hts _ lX10_comesBack_f7) (fun _ h9 => h9) rfl dX10_comesBack_71 ?_
      refine lv_iload_n hx hb dX10_comesBack_74 rfl (lv_at hl 0 rfl) ?_
      refine lv_iconst (v := (0 : Int32)) hx hb dX10_comesBack_75 (by decide) ?_
      refine lv_iadd hx hb dX10_comesBack_76 ?_
      refine lv_iconst (v := (0 : Int32)) hx hb dX10_comesBack_77 (by decide) ?_
      obtain ⟨hin, h⟩ := h
      refine va_iast hx hb hKn.k hP hD hS 1 0 rfl rfl hin dX10_comesBack_78 (fun H locs hP hD hS => ?_)
      obtain ⟨q6, eq6⟩ : ∃ z : qS, z = up2 q5 1 (Int32.toNatClampNeg (y1 + (0 : Int32))) (0 : Int32) := ⟨_, rfl⟩
      have hP : va_P G.1 vwCl (wM G a q6 ++ R) H := by rw [eq6]; exact hP
      have hD : va_D A (wM G a q6 ++ R) := by rw [eq6]; exact hD
      have h := h q6 eq6
      refine lv_aload_n hx hb dX10_comesBack_79 rfl (lv_at hl 1 rfl) ?_
      refine va_get (D := G.1) (ci := 10) (v := .ref (a 1)) (C := RX10) (T := TX10) (N := 15) hx hb hts iX10_comesBack_X10 hown hKn.k hP 0 rfl rfl 1 (by decide) (hts _ lX10_comesBack_f7) (fun _ h9 => h9) rfl dX10_comesBack_80 ?_
      refine lv_iload_n hx hb dX10_comesBack_83 rfl (lv_at hl 0 rfl) ?_
      refine lv_iconst (v := (1 : Int32)) hx hb dX10_comesBack_84 (by decide) ?_
      refine lv_iadd hx hb dX10_comesBack_85 ?_
      refine lv_iconst (v := (0 : Int32)) hx hb dX10_comesBack_86 (by decide) ?_
      obtain ⟨hin, h⟩ := h
      refine va_iast hx hb hKn.k hP hD hS 1 0 rfl rfl hin dX10_comesBack_87 (fun H locs hP hD hS => ?_)
      obtain ⟨q7, eq7⟩ : ∃ z : qS, z = up2 q6 1 (Int32.toNatClampNeg (y1 + (1 : Int32))) (0 : Int32) := ⟨_, rfl⟩
      have hP : va_P G.1 vwCl (wM G a q7 ++ R) H := by rw [eq7]; exact hP
      have hD : va_D A (wM G a q7 ++ R) := by rw [eq7]; exact hD
      have h := h q7 eq7
      refine lv_aload_n hx hb dX10_comesBack_88 rfl (lv_at hl 1 rfl) ?_
      refine va_get (D := G.1) (ci := 10) (v := .ref (a 1)) (C := RX10) (T := TX10) (N := 15) hx hb hts iX10_comesBack_X10 hown hKn.k hP 0 rfl rfl 1 (by decide) (hts _ lX10_comesBack_f7) (fun _ h9 => h9) rfl dX10_comesBack_89 ?_
      refine lv_iload_n hx hb dX10_comesBack_92 rfl (lv_at hl 0 rfl) ?_
      refine lv_iconst (v := (2 : Int32)) hx hb dX10_comesBack_93 (by decide) ?_
      refine lv_iadd hx hb dX10_comesBack_94 ?_
      refine lv_iconst (v := (0 : Int32)) hx hb dX10_comesBack_95 (by decide) ?_
      obtain ⟨hin, h⟩ := h
      refine va_iast hx hb hKn.k hP hD hS 1 0 rfl rfl hin dX10_comesBack_96 (fun H locs hP hD hS => ?_)
      obtain ⟨q8, eq8⟩ : ∃ z : qS, z = up2 q7 1 (Int32.toNatClampNeg (y1 + (2 : Int32))) (0 : Int32) := ⟨_, rfl⟩
      have hP : va_P G.1 vwCl (wM G a q8 ++ R) H := by rw [eq8]; exact hP
      have hD : va_D A (wM G a q8 ++ R) := by rw [eq8]; exact hD
      have h := h q8 eq8
      exact kX10_comesBack_b97 hx hb hml hown hts hA hKn hret q8 _ _ _ h hP hD hS (lv_sub hl [] rfl)
abbrev rmX10_goes : Room := { frames := 2, cells := 0, slots := 0, locals := 44 }
theorem lX10_goes_f7 : Cond.fieldLink RX10 7 "QuarryBlendsModel" "s" "[I" ∈ wsX10_goes := by decide +kernel
theorem iX10_goes_X10 : ∀ w ∈ wsX100, w ∈ wsX10_goes := by decide +kernel
set_option maxHeartbeats 4000000 in
set_option maxRecDepth 100000 in
theorem kX10_goes_b175 {p : Program} {l : Launch} {e : Env} {s : State} {m : MethodId} {args : Array Value} {below : List Frame} {meth : Method} {c : Code} {G : qG} {A : Nat → Prop} {Qf : State → Prop} {R : va_W} {a : Nat → Nat} {k : qS → Prop} (hx : p.tables.exec = Jvm.exec) (hb : c.code = cX10_goes) (hml : c.maxLocals = 5) (hown : s.vm.findClass RX10 = some m.cls) (hts : ∀ w ∈ wsX10_goes, w.before args s = true) (hA : ∀ q : Nat, s.heap.size ≤ q → A q) (hKn : qKn G A s s.heap) (hret : ∀ (q : qS) (H : Heap) (locs : List Loc) (ls : Array Slot) (pc : Nat), k q → va_P G.1 vwCl (wM G a q ++ R) H → va_D A (wM G a q ++ R) → va_S A s.heap H locs → decode cX10_goes pc = .ok (.return_, 1) → W p l e rmX10_goes s m args below meth c H locs 0 0 Qf (F0 m pc ls [])) : ∀ (q : qS) (H : Heap) (locs : List Loc) (ls : Array Slot), wX10_goes_b175 k q → va_P G.1 vwCl (wM G a q ++ R) H → va_D A (wM G a q ++ R) → va_S A s.heap H locs → lv_has ls 5 [] → W p l e rmX10_goes s m args below meth c H locs 0 0 Qf (F0 m 175 ls []) := by
  intro q H locs ls h hP hD hS hl
  unfold wX10_goes_b175 at h
  exact hret _ _ _ _ _ h hP hD hS dX10_goes_175
set_option maxHeartbeats 4000000 in
set_option maxRecDepth 100000 in
theorem kX10_goes_b59 {p : Program} {l : Launch} {e : Env} {s : State} {m : MethodId} {args : Array Value} {below : List Frame} {meth : Method} {c : Code} {G : qG} {A : Nat → Prop} {Qf : State → Prop} {R : va_W} {a : Nat → Nat} {k : qS → Prop} (hx : p.tables.exec = Jvm.exec) (hb : c.code = cX10_goes) (hml : c.maxLocals = 5) (hown : s.vm.findClass RX10 = some m.cls) (hts : ∀ w ∈ wsX10_goes, w.before args s = true) (hA : ∀ q : Nat, s.heap.size ≤ q → A q) (hKn : qKn G A s s.heap) (hret : ∀ (q : qS) (H : Heap) (locs : List Loc) (ls : Array Slot) (pc : Nat), k q → va_P G.1 vwCl (wM G a q ++ R) H → va_D A (wM G a q ++ R) → va_S A s.heap H locs → decode cX10_goes pc = .ok (.return_, 1) → W p l e rmX10_goes s m args below meth c H locs 0 0 Qf (F0 m pc ls [])) : ∀ (q : qS) (x2 : Int32) (x3 : Int32) (z0 : Int32) (H : Heap) (locs : List Loc) (ls : Array Slot), wX10_goes_b59 k q x2 x3 z0 → va_P G.1 vwCl (wM G a q ++ R) H → va_D A (wM G a q ++ R) → va_S A s.heap H locs → lv_has ls 5 [(0, .ref (a 0)), (2, .int x2), (3, .int x3)] → W p l e rmX10_goes s m args below meth c H locs 0 0 Qf (F0 m 59 ls [.int z0]) := by
  intro q x2 x3 z0 H locs ls h hP hD hS hl
  unfold wX10_goes_b59 at h
  refine lv_istore (lv' := [(4, .int z0), (0, .ref (a 0)), (2, .int x2), (3, .int x3)]) hx hb dX10_goes_59 hl (by decide) rfl (fun ls hl => ?_)
  refine lv_aload_n hx hb dX10_goes_61 rfl (lv_at hl 1 rfl) ?_
  refine va_get (D := G.1) (ci := 10) (v := .ref (a 1)) (C := RX10) (T := TX10) (N := 15) hx hb hts iX10_goes_X10 hown hKn.k hP 0 rfl rfl 1 (by decide) (hts _ lX10_goes_f7) (fun _ h9 => h9) rfl dX10_goes_62 ?_
  refine lv_bipush (v := (26 : Int32)) hx hb dX10_goes_65 (by decide) ?_
  refine lv_iconst (v := (4 : Int32)) hx hb dX10_goes_67 (by decide) ?_
  refine lv_iload_n hx hb dX10_goes_68 rfl (lv_at hl 2 rfl) ?_
  refine lv_imul hx hb dX10_goes_69 ?_
  refine lv_iadd hx hb dX10_goes_70 ?_
  refine lv_iconst (v := (0 : Int32)) hx hb dX10_goes_71 (by decide) ?_
  refine lv_iadd hx hb dX10_goes_72 ?_
  refine lv_dup2_11 hx hb dX10_goes_73 rfl rfl ?_
  obtain ⟨hin, h⟩ := h
  refine va_iald hx hb hKn.k hP 1 0 rfl rfl hin dX10_goes_74 ?_
  refine lv_iload hx hb dX10_goes_75 (lv_at hl 0 rfl) ?_
  refine lv_isub hx hb dX10_goes_77 ?_
  refine lv_topi (fun y1 ey1 => ?_)
  have h := h y1 ey1
  obtain ⟨hin, h⟩ := h
  refine va_iast hx hb hKn.k hP hD hS 1 0 rfl rfl hin dX10_goes_78 (fun H locs hP hD hS => ?_)
  obtain ⟨q2, eq2⟩ : ∃ z : qS, z = up2 q 1 (Int32.toNatClampNeg (((26 : Int32) + ((4 : Int32) * x2)) + (0 : Int32))) y1 := ⟨_, rfl⟩
  have hP : va_P G.1 vwCl (wM G a q2 ++ R) H := by rw [eq2]; exact hP
  have hD : va_D A (wM G a q2 ++ R) := by rw [eq2]; exact hD
  have h := h q2 eq2
  refine lv_aload_n hx hb dX10_goes_79 rfl (lv_at hl 1 rfl) ?_
  refine va_get (D := G.1) (ci := 10) (v := .ref (a 1)) (C := RX10) (T := TX10) (N := 15) hx hb hts iX10_goes_X10 hown hKn.k hP 0 rfl rfl 1 (by decide) (hts _ lX10_goes_f7) (fun _ h9 => h9) rfl dX10_goes_80 ?_
  refine lv_bipush (v := (26 : Int32)) hx hb dX10_goes_83 (by decide) ?_
  refine lv_iconst (v := (4 : Int32)) hx hb dX10_goes_85 (by decide) ?_
  refine lv_iload_n hx hb dX10_goes_86 rfl (lv_at hl 2 rfl) ?_
  refine lv_imul hx hb dX10_goes_87 ?_
  refine lv_iadd hx hb dX10_goes_88 ?_
  refine lv_iconst (v := (3 : Int32)) hx hb dX10_goes_89 (by decide) ?_
  refine lv_iadd hx hb dX10_goes_90 ?_
  refine lv_dup2_11 hx hb dX10_goes_91 rfl rfl ?_
  obtain ⟨hin, h⟩ := h
  refine va_iald hx hb hKn.k hP 1 0 rfl rfl hin dX10_goes_92 ?_
  refine lv_iload hx hb dX10_goes_93 (lv_at hl 0 rfl) ?_
  refine lv_iadd hx hb dX10_goes_95 ?_
  refine lv_topi (fun y3 ey3 => ?_)
  have h := h y3 ey3
  obtain ⟨hin, h⟩ := h
  refine va_iast hx hb hKn.k hP hD hS 1 0 rfl rfl hin dX10_goes_96 (fun H locs hP hD hS => ?_)
  obtain ⟨q4, eq4⟩ : ∃ z : qS, z = up2 q2 1 (Int32.toNatClampNeg (((26 : Int32) + ((4 : Int32) * x2)) + (3 : Int32))) y3 := ⟨_, rfl⟩
  have hP : va_P G.1 vwCl (wM G a q4 ++ R) H := by rw [eq4]; exact hP
  have hD : va_D A (wM G a q4 ++ R) := by rw [eq4]; exact hD
  have h := h q4 eq4
  refine lv_aload_n hx hb dX10_goes_97 rfl (lv_at hl 1 rfl) ?_
  refine va_get (D := G.1) (ci := 10) (v := .ref (a 1)) (C := RX10) (T := TX10) (N := 15) hx hb hts iX10_goes_X10 hown hKn.k hP 0 rfl rfl 1 (by decide) (hts _ lX10_goes_f7) (fun _ h9 => h9) rfl dX10_goes_98 ?_
  refine lv_iload_n hx hb dX10_goes_101 rfl (lv_at hl 3 rfl) ?_
  refine lv_iconst (v := (0 : Int32)) hx hb dX10_goes_102 (by decide) ?_
  refine lv_iadd hx hb dX10_goes_103 ?_
  refine lv_iload_n hx hb dX10_goes_104 rfl (lv_at hl 2 rfl) ?_
  refine lv_iconst (v := (1 : Int32)) hx hb dX10_goes_105 (by decide) ?_
  refine lv_iadd hx hb dX10_goes_106 ?_
  refine lv_topi (fun y5 ey5 => ?_)
  have h := h y5 ey5
  obtain ⟨hin, h⟩ := h
  refine va_iast hx hb hKn.k hP hD hS 1 0 rfl rfl hin dX10_goes_107 (fun H locs hP hD hS => ?_)
  obtain ⟨q6, eq6⟩ : ∃ z : qS, z = up2 q4 1 (Int32.toNatClampNeg (x3 + (0 : Int32))) y5 := ⟨_, rfl⟩
  have hP : va_P G.1 vwCl (wM G a q6 ++ R) H := by rw [eq6]; exact hP
  have hD : va_D A (wM G a q6 ++ R) := by rw [eq6]; exact hD
  have h := h q6 eq6
  refine lv_aload_n hx hb dX10_goes_108 rfl (lv_at hl 1 rfl) ?_
  refine va_get (D := G.1) (ci := 10) (v := .ref (a 1)) (C := RX10) (T := TX10) (N := 15) hx hb hts iX10_goes_X10 hown hKn.k hP 0 rfl rfl 1 (by decide) (hts _ lX10_goes_f7) (fun _ h9 => h9) rfl dX10_goes_109 ?_
  refine lv_iload_n hx hb dX10_goes_112 rfl (lv_at hl 3 rfl) ?_
  refine lv_iconst (v := (1 : Int32)) hx hb dX10_goes_113 (by decide) ?_
  refine lv_iadd hx hb dX10_goes_114 ?_
  refine lv_iload hx hb dX10_goes_115 (lv_at hl 0 rfl) ?_
  obtain ⟨hin, h⟩ := h
  refine va_iast hx hb hKn.k hP hD hS 1 0 rfl rfl hin dX10_goes_117 (fun H locs hP hD hS => ?_)
  obtain ⟨q7, eq7⟩ : ∃ z : qS, z = up2 q6 1 (Int32.toNatClampNeg (x3 + (1 : Int32))) z0 := ⟨_, rfl⟩
  have hP : va_P G.1 vwCl (wM G a q7 ++ R) H := by rw [eq7]; exact hP
  have hD : va_D A (wM G a q7 ++ R) := by rw [eq7]; exact hD
  have h := h q7 eq7
  refine lv_aload_n hx hb dX10_goes_118 rfl (lv_at hl 1 rfl) ?_
  refine va_get (D := G.1) (ci := 10) (v := .ref (a 1)) (C := RX10) (T := TX10) (N := 15) hx hb hts iX10_goes_X10 hown hKn.k hP 0 rfl rfl 1 (by decide) (hts _ lX10_goes_f7) (fun _ h9 => h9) rfl dX10_goes_119 ?_
  refine lv_iload_n hx hb dX10_goes_122 rfl (lv_at hl 3 rfl) ?_
  refine lv_iconst (v := (2 : Int32)) hx hb dX10_goes_123 (by decide) ?_
  refine lv_iadd hx hb dX10_goes_124 ?_
  refine lv_aload_n hx hb dX10_goes_125 rfl (lv_at hl 1 rfl) ?_
  refine va_get (D := G.1) (ci := 10) (v := .ref (a 1)) (C := RX10) (T := TX10) (N := 15) hx hb hts iX10_goes_X10 hown hKn.k hP 0 rfl rfl 1 (by decide) (hts _ lX10_goes_f7) (fun _ h9 => h9) rfl dX10_goes_126 ?_
  refine lv_bipush (v := (6 : Int32)) hx hb dX10_goes_129 (by decide) ?_
  refine va_iald hx hb hKn.k hP 1 0 rfl rfl (by unfold vp_in; decide) dX10_goes_131 ?_
  refine lv_aload_n hx hb dX10_goes_132 rfl (lv_at hl 1 rfl) ?_
  refine lv_iload_n hx hb dX10_goes_133 rfl (lv_at hl 2 rfl) ?_
  refine lv_iconst (v := (2 : Int32)) hx hb dX10_goes_134 (by decide) ?_
  refine qc_vi (As := [.int x2, .int (2 : Int32)]) (rest := [.int (q7 1 6), .int (x3 + (2 : Int32)), .ref (a 1)]) ⟨hx, hb, hml, hown, hts⟩ (mX10_faceOf l G _ _ a q7 _ x2 (2 : Int32)) (cwV 2 hts gX10_goes_X10_faceOf rfl rfl rfl (by decide +kernel) ⟨Nat.le_of_ble_eq_true rfl, Nat.le_of_ble_eq_true rfl⟩) hP hD hS hA hKn 0 10 rfl rfl rfl h rfl hl.1 rfl (Nat.le_of_ble_eq_true rfl) dX10_goes_135 ⟨Nat.zero_le _, Nat.zero_le _⟩ (fun r8 q9 H locs h hP hD hS => ?_)
  have hP : va_P G.1 vwCl (wM G a q9 ++ R) H := hP
  have hD : va_D A (wM G a q9 ++ R) := hD
  refine lv_iadd hx hb dX10_goes_138 ?_
  refine lv_topi (fun y10 ey10 => ?_)
  have h := h y10 ey10
  obtain ⟨hin, h⟩ := h
  refine va_iast hx hb hKn.k hP hD hS 1 0 rfl rfl hin dX10_goes_139 (fun H locs hP hD hS => ?_)
  obtain ⟨q11, eq11⟩ : ∃ z : qS, z = up2 q9 1 (Int32.toNatClampNeg (x3 + (2 : Int32))) y10 := ⟨_, rfl⟩
  have hP : va_P G.1 vwCl (wM G a q11 ++ R) H := by rw [eq11]; exact hP
  have hD : va_D A (wM G a q11 ++ R) := by rw [eq11]; exact hD
  have h := h q11 eq11
  refine lv_aload_n hx hb dX10_goes_140 rfl (lv_at hl 1 rfl) ?_
  refine va_get (D := G.1) (ci := 10) (v := .ref (a 1)) (C := RX10) (T := TX10) (N := 15) hx hb hts iX10_goes_X10 hown hKn.k hP 0 rfl rfl 1 (by decide) (hts _ lX10_goes_f7) (fun _ h9 => h9) rfl dX10_goes_141 ?_
  refine lv_iload_n hx hb dX10_goes_144 rfl (lv_at hl 3 rfl) ?_
  refine lv_iconst (v := (3 : Int32)) hx hb dX10_goes_145 (by decide) ?_
  refine lv_iadd hx hb dX10_goes_146 ?_
  refine lv_dup2_11 hx hb dX10_goes_147 rfl rfl ?_
  obtain ⟨hin, h⟩ := h
  refine va_iald hx hb hKn.k hP 1 0 rfl rfl hin dX10_goes_148 ?_
  refine lv_iconst (v := (1 : Int32)) hx hb dX10_goes_149 (by decide) ?_
  refine lv_iadd hx hb dX10_goes_150 ?_
  refine lv_topi (fun y12 ey12 => ?_)
  have h := h y12 ey12
  obtain ⟨hin, h⟩ := h
  refine va_iast hx hb hKn.k hP hD hS 1 0 rfl rfl hin dX10_goes_151 (fun H locs hP hD hS => ?_)
  obtain ⟨q13, eq13⟩ : ∃ z : qS, z = up2 q11 1 (Int32.toNatClampNeg (x3 + (3 : Int32))) y12 := ⟨_, rfl⟩
  have hP : va_P G.1 vwCl (wM G a q13 ++ R) H := by rw [eq13]; exact hP
  have hD : va_D A (wM G a q13 ++ R) := by rw [eq13]; exact hD
  have h := h q13 eq13
  refine lv_aload_n hx hb dX10_goes_152 rfl (lv_at hl 1 rfl) ?_
  refine va_get (D := G.1) (ci := 10) (v := .ref (a 1)) (C := RX10) (T := TX10) (N := 15) hx hb hts iX10_goes_X10 hown hKn.k hP 0 rfl rfl 1 (by decide) (hts _ lX10_goes_f7) (fun _ h9 => h9) rfl dX10_goes_153 ?_
  refine lv_bipush (v := (13 : Int32)) hx hb dX10_goes_156 (by decide) ?_
  refine lv_dup2_11 hx hb dX10_goes_158 rfl rfl ?_
  refine va_iald hx hb hKn.k hP 1 0 rfl rfl (by unfold vp_in; decide) dX10_goes_159 ?_
  refine lv_aload_n hx hb dX10_goes_160 rfl (lv_at hl 1 rfl) ?_
  refine va_get (D := G.1) (ci := 10) (v := .ref (a 1)) (C := RX10) (T := TX10) (N := 15) hx hb hts iX10_goes_X10 hown hKn.k hP 0 rfl rfl 1 (by decide) (hts _ lX10_goes_f7) (fun _ h9 => h9) rfl dX10_goes_161 ?_
  refine lv_iconst (v := (5 : Int32)) hx hb dX10_goes_164 (by decide) ?_
  refine va_iald hx hb hKn.k hP 1 0 rfl rfl (by unfold vp_in; decide) dX10_goes_165 ?_
  refine lv_aload_n hx hb dX10_goes_166 rfl (lv_at hl 1 rfl) ?_
  refine lv_iload_n hx hb dX10_goes_167 rfl (lv_at hl 2 rfl) ?_
  refine lv_iconst (v := (2 : Int32)) hx hb dX10_goes_168 (by decide) ?_
  refine qc_vi (As := [.int x2, .int (2 : Int32)]) (rest := [.int (q13 1 5), .int (q13 1 13), .int (13 : Int32), .ref (a 1)]) ⟨hx, hb, hml, hown, hts⟩ (mX10_faceOf l G _ _ a q13 _ x2 (2 : Int32)) (cwV 2 hts gX10_goes_X10_faceOf rfl rfl rfl (by decide +kernel) ⟨Nat.le_of_ble_eq_true rfl, Nat.le_of_ble_eq_true rfl⟩) hP hD hS hA hKn 0 10 rfl rfl rfl h rfl hl.1 rfl (Nat.le_of_ble_eq_true rfl) dX10_goes_169 ⟨Nat.zero_le _, Nat.zero_le _⟩ (fun r14 q15 H locs h hP hD hS => ?_)
  have hP : va_P G.1 vwCl (wM G a q15 ++ R) H := hP
  have hD : va_D A (wM G a q15 ++ R) := hD
  refine lv_imul hx hb dX10_goes_172 ?_
  refine lv_iadd hx hb dX10_goes_173 ?_
  refine lv_topi (fun y16 ey16 => ?_)
  have h := h y16 ey16
  refine va_iast hx hb hKn.k hP hD hS 1 0 rfl rfl (by unfold vp_in; decide) dX10_goes_174 (fun H locs hP hD hS => ?_)
  obtain ⟨q17, eq17⟩ : ∃ z : qS, z = up2 q15 1 13 y16 := ⟨_, rfl⟩
  have hP : va_P G.1 vwCl (wM G a q17 ++ R) H := by rw [eq17]; exact hP
  have hD : va_D A (wM G a q17 ++ R) := by rw [eq17]; exact hD
  have h := h q17 eq17
  exact kX10_goes_b175 hx hb hml hown hts hA hKn hret q17 _ _ _ h hP hD hS (lv_sub hl [] rfl)
set_option maxHeartbeats 4000000 in
set_option maxRecDepth 100000 in
theorem mX10_goes (l : Launch) (G : qG) (k : qS → Prop) (R : va_W) (a : Nat → Nat) (q : qS) (sz : Nat) (p0 : Int32) : Met l yX10_goes wsX10_goes rmX10_goes (qPc G [.ref (a 0), .int p0] (wM G a q ++ R) sz (wX10_goes k q p0)) (qQv G (wM G a q ++ R) sz (fun (u : qS) => k u) (fun (u : qS) => wM G a u ++ R)) 0 0 (va_A (wM G a q ++ R) sz) := by
  refine Met.ofW (cc := cX10_goes) (maxL := 5) (ret := none) (by decide) rfl ?_
  intro p e s m args below meth c s₁ B hml hv
  obtain ⟨rfl, hsz, hP, hD0, hKn0, h⟩ := hv
  have hx := B.exec
  have hb := B.bytes
  have hr := B.returns
  have hts := atoms_spec (ws := wsX10_goes) B.pre
  have hown : s.vm.findClass RX10 = some m.cls := findClass_of_methodNamed B.named
  have hlocks := B.notSynchronized
  subst hsz
  have hD := hD0.self (sz := s.heap.size)
  generalize hAe : va_A (wM G a q ++ R) s.heap.size = A at hD hKn0 ⊢
  have hA : ∀ q : Nat, s.heap.size ≤ q → A q := fun q h => by rw [← hAe]; exact Or.inr h
  have hKn : qKn G A s s.heap := hKn0
  have hS : va_S A s.heap s.heap [] := va_S.rf
  have hret : ∀ (q' : qS) (H : Heap) (locs : List Loc) (ls : Array Slot) (pc : Nat), k q' → va_P G.1 vwCl (wM G a q' ++ R) H → va_D A (wM G a q' ++ R) → va_S A s.heap H locs → decode cX10_goes pc = .ok (.return_, 1) → W p l e rmX10_goes s m #[.ref (a 0), .int p0] below meth c H locs 0 0 (MQ below (qQv G (wM G a q ++ R) s.heap.size (fun (u : qS) => k u) (fun (u : qS) => wM G a u ++ R)) #[.ref (a 0), .int p0] s 0 0 A) (F0 m pc ls []) := fun q' H locs ls pc hk hP hD hS hd => W.vret hx hb hr (fun t ht hW => q_rv (u := (q' : qS)) hAe hk hP hD hS ht) hS.2.2 hd
  have hl := lv_entry ([.ref (a 0), .int p0]) (n := 5) (Nat.le_of_ble_eq_true rfl)
  rw [lg_entry_eq]
  generalize (lg_sl ([.ref (a 0), .int p0]) ++ List.replicate (5 - (lg_sl ([.ref (a 0), .int p0])).length) Slot.unset).toArray = ls at hl ⊢
  have hl : lv_has ls 5 [(0, .ref (a 0)), (1, .int p0)] := hl
  unfold wX10_goes at h
  show W p l e rmX10_goes s m #[.ref (a 0), .int p0] below meth c s.heap [] 0 0 _ _
  refine lv_aload_n hx hb dX10_goes_0 rfl (lv_at hl 0 rfl) ?_
  refine qc_vi (As := []) (rest := []) ⟨hx, hb, hml, hown, hts⟩ (mX10_fullest l G _ _ a q _ ) (cwV 0 hts gX10_goes_X10_fullest rfl rfl rfl (by decide +kernel) ⟨Nat.le_of_ble_eq_true rfl, Nat.le_of_ble_eq_true rfl⟩) hP hD hS hA hKn 0 10 rfl rfl rfl h rfl hl.1 rfl (Nat.le_of_ble_eq_true rfl) dX10_goes_1 ⟨Nat.zero_le _, Nat.zero_le _⟩ (fun r18 q19 H locs h hP hD hS => ?_)
  have hP : va_P G.1 vwCl (wM G a q19 ++ R) H := hP
  have hD : va_D A (wM G a q19 ++ R) := hD
  refine lv_istore_n (lv' := [(2, .int r18), (0, .ref (a 0)), (1, .int p0)]) hx hb dX10_goes_4 rfl hl (by decide) rfl (fun ls hl => ?_)
  refine lv_bipush (v := (58 : Int32)) hx hb dX10_goes_5 (by decide) ?_
  refine lv_iconst (v := (4 : Int32)) hx hb dX10_goes_7 (by decide) ?_
  refine lv_iload_n hx hb dX10_goes_8 rfl (lv_at hl 2 rfl) ?_
  refine lv_imul hx hb dX10_goes_9 ?_
  refine lv_iadd hx hb dX10_goes_10 ?_
  refine lv_topi (fun y20 ey20 => ?_)
  have h := h y20 ey20
  refine lv_istore_n (lv' := [(3, .int y20), (2, .int r18), (0, .ref (a 0)), (1, .int p0)]) hx hb dX10_goes_11 rfl hl (by decide) rfl (fun ls hl => ?_)
  refine lv_aload_n hx hb dX10_goes_12 rfl (lv_at hl 2 rfl) ?_
  refine va_get (D := G.1) (ci := 10) (v := .ref (a 1)) (C := RX10) (T := TX10) (N := 15) hx hb hts iX10_goes_X10 hown hKn.k hP 0 rfl rfl 1 (by decide) (hts _ lX10_goes_f7) (fun _ h9 => h9) rfl dX10_goes_13 ?_
  refine lv_iload_n hx hb dX10_goes_16 rfl (lv_at hl 0 rfl) ?_
  refine lv_iconst (v := (0 : Int32)) hx hb dX10_goes_17 (by decide) ?_
  refine lv_iadd hx hb dX10_goes_18 ?_
  obtain ⟨hin, h⟩ := h
  refine va_iald hx hb hKn.k hP 1 0 rfl rfl hin dX10_goes_19 ?_
  refine lv_if_ne (tgt := 175) hx hb dX10_goes_20 (by decide) (fun c1 => ?_) (fun c1 => ?_)
  · have h := h.1 c1
    exact kX10_goes_b175 hx hb hml hown hts hA hKn hret q19 _ _ _ h hP hD hS (lv_sub hl [] rfl)
  · have h := h.2 c1
    refine lv_iload_n hx hb dX10_goes_23 rfl (lv_at hl 1 rfl) ?_
    refine lv_bipush (v := (-6 : Int32)) hx hb dX10_goes_24 (by decide) ?_
    refine lv_icmp_eq (tgt := 175) hx hb dX10_goes_26 (by decide) (fun c1 => ?_) (fun c1 => ?_)
    · have h := h.1 c1
      exact kX10_goes_b175 hx hb hml hown hts hA hKn hret q19 _ _ _ h hP hD hS (lv_sub hl [] rfl)
    · have h := h.2 c1
      refine lv_aload_n hx hb dX10_goes_29 rfl (lv_at hl 2 rfl) ?_
      refine lv_iload_n hx hb dX10_goes_30 rfl (lv_at hl 1 rfl) ?_
      refine lv_iconst (v := (0 : Int32)) hx hb dX10_goes_31 (by decide) ?_
      refine qc_vi (As := [.int r18, .int (0 : Int32)]) (rest := []) ⟨hx, hb, hml, hown, hts⟩ (mX10_faceOf l G _ _ a q19 _ r18 (0 : Int32)) (cwV 2 hts gX10_goes_X10_faceOf rfl rfl rfl (by decide +kernel) ⟨Nat.le_of_ble_eq_true rfl, Nat.le_of_ble_eq_true rfl⟩) hP hD hS hA hKn 0 10 rfl rfl rfl h rfl hl.1 rfl (Nat.le_of_ble_eq_true rfl) dX10_goes_32 ⟨Nat.zero_le _, Nat.zero_le _⟩ (fun r21 q22 H locs h hP hD hS => ?_)
      have hP : va_P G.1 vwCl (wM G a q22 ++ R) H := hP
      have hD : va_D A (wM G a q22 ++ R) := hD
      refine lv_aload_n hx hb dX10_goes_35 rfl (lv_at hl 2 rfl) ?_
      refine va_get (D := G.1) (ci := 10) (v := .ref (a 1)) (C := RX10) (T := TX10) (N := 15) hx hb hts iX10_goes_X10 hown hKn.k hP 0 rfl rfl 1 (by decide) (hts _ lX10_goes_f7) (fun _ h9 => h9) rfl dX10_goes_36 ?_
      refine lv_iconst (v := (1 : Int32)) hx hb dX10_goes_39 (by decide) ?_
      refine va_iald hx hb hKn.k hP 1 0 rfl rfl (by unfold vp_in; decide) dX10_goes_40 ?_
      refine lv_icmp_ge (tgt := 53) hx hb dX10_goes_41 (by decide) (fun c1 => ?_) (fun c1 => ?_)
      · have h := h.1 c1
        refine lv_aload_n hx hb dX10_goes_53 rfl (lv_at hl 2 rfl) ?_
        refine va_get (D := G.1) (ci := 10) (v := .ref (a 1)) (C := RX10) (T := TX10) (N := 15) hx hb hts iX10_goes_X10 hown hKn.k hP 0 rfl rfl 1 (by decide) (hts _ lX10_goes_f7) (fun _ h9 => h9) rfl dX10_goes_54 ?_
        refine lv_iconst (v := (1 : Int32)) hx hb dX10_goes_57 (by decide) ?_
        refine va_iald hx hb hKn.k hP 1 0 rfl rfl (by unfold vp_in; decide) dX10_goes_58 ?_
        exact kX10_goes_b59 hx hb hml hown hts hA hKn hret q22 r18 y20 (q22 1 1) _ _ _ h hP hD hS (lv_sub hl [2, 1, 0] rfl)
      · have h := h.2 c1
        refine lv_aload_n hx hb dX10_goes_44 rfl (lv_at hl 2 rfl) ?_
        refine lv_iload_n hx hb dX10_goes_45 rfl (lv_at hl 1 rfl) ?_
        refine lv_iconst (v := (0 : Int32)) hx hb dX10_goes_46 (by decide) ?_
        refine qc_vi (As := [.int r18, .int (0 : Int32)]) (rest := []) ⟨hx, hb, hml, hown, hts⟩ (mX10_faceOf l G _ _ a q22 _ r18 (0 : Int32)) (cwV 2 hts gX10_goes_X10_faceOf rfl rfl rfl (by decide +kernel) ⟨Nat.le_of_ble_eq_true rfl, Nat.le_of_ble_eq_true rfl⟩) hP hD hS hA hKn 0 10 rfl rfl rfl h rfl hl.1 rfl (Nat.le_of_ble_eq_true rfl) dX10_goes_47 ⟨Nat.zero_le _, Nat.zero_le _⟩ (fun r23 q24 H locs h hP hD hS => ?_)
        have hP : va_P G.1 vwCl (wM G a q24 ++ R) H := hP
        have hD : va_D A (wM G a q24 ++ R) := hD
        refine lv_goto (tgt := 59) hx hb dX10_goes_50 (by decide) ?_
        exact kX10_goes_b59 hx hb hml hown hts hA hKn hret q24 r18 y20 r23 _ _ _ h hP hD hS (lv_sub hl [2, 1, 0] rfl)
abbrev rmX10_crushes : Room := { frames := 1, cells := 0, slots := 0, locals := 21 }
theorem lX10_crushes_f7 : Cond.fieldLink RX10 7 "QuarryBlendsModel" "s" "[I" ∈ wsX10_crushes := by decide +kernel
theorem iX10_crushes_X10 : ∀ w ∈ wsX100, w ∈ wsX10_crushes := by decide +kernel
set_option maxHeartbeats 4000000 in
set_option maxRecDepth 100000 in
theorem kX10_crushes_b46 {p : Program} {l : Launch} {e : Env} {s : State} {m : MethodId} {args : Array Value} {below : List Frame} {meth : Method} {c : Code} {G : qG} {A : Nat → Prop} {Qf : State → Prop} {R : va_W} {a : Nat → Nat} {k : qS → Prop} (hx : p.tables.exec = Jvm.exec) (hb : c.code = cX10_crushes) (hml : c.maxLocals = 7) (hown : s.vm.findClass RX10 = some m.cls) (hts : ∀ w ∈ wsX10_crushes, w.before args s = true) (hA : ∀ q : Nat, s.heap.size ≤ q → A q) (hKn : qKn G A s s.heap) (hret : ∀ (q : qS) (H : Heap) (locs : List Loc) (ls : Array Slot) (pc : Nat), k q → va_P G.1 vwCl (wM G a q ++ R) H → va_D A (wM G a q ++ R) → va_S A s.heap H locs → decode cX10_crushes pc = .ok (.return_, 1) → W p l e rmX10_crushes s m args below meth c H locs 0 0 Qf (F0 m pc ls [])) {kb14 : qS → Int32 → Int32 → Int32 → Prop} (hkb14 : ∀ (q : qS) (x1 : Int32) (x2 : Int32) (x3 : Int32) (H : Heap) (locs : List Loc) (ls : Array Slot), kb14 q x1 x2 x3 → va_P G.1 vwCl (wM G a q ++ R) H → va_D A (wM G a q ++ R) → va_S A s.heap H locs → lv_has ls 7 [(0, .ref (a 0)), (1, .int x1), (2, .int x2), (3, .int x3)] → W p l e rmX10_crushes s m args below meth c H locs 0 0 Qf (F0 m 14 ls [])) : ∀ (q : qS) (x1 : Int32) (x2 : Int32) (x3 : Int32) (z0 : Int32) (H : Heap) (locs : List Loc) (ls : Array Slot), wX10_crushes_b46 k kb14 q x1 x2 x3 z0 → va_P G.1 vwCl (wM G a q ++ R) H → va_D A (wM G a q ++ R) → va_S A s.heap H locs → lv_has ls 7 [(0, .ref (a 0)), (1, .int x1), (2, .int x2), (3, .int x3)] → W p l e rmX10_crushes s m args below meth c H locs 0 0 Qf (F0 m 46 ls [.int z0]) := by
  intro q x1 x2 x3 z0 H locs ls h hP hD hS hl
  unfold wX10_crushes_b46 at h
  refine lv_istore (lv' := [(4, .int z0), (0, .ref (a 0)), (1, .int x1), (2, .int x2), (3, .int x3)]) hx hb dX10_crushes_46 hl (by decide) rfl (fun ls hl => ?_)
  refine lv_iload hx hb dX10_crushes_48 (lv_at hl 0 rfl) ?_
  refine lv_bipush (v := (10 : Int32)) hx hb dX10_crushes_50 (by decide) ?_
  refine lv_iload_n hx hb dX10_crushes_52 rfl (lv_at hl 3 rfl) ?_
  refine lv_isub hx hb dX10_crushes_53 ?_
  refine lv_imul hx hb dX10_crushes_54 ?_
  refine lv_bipush (v := (10 : Int32)) hx hb dX10_crushes_55 (by decide) ?_
  refine lv_iload_n hx hb dX10_crushes_57 rfl (lv_at hl 4 rfl) ?_
  refine lv_isub hx hb dX10_crushes_58 ?_
  refine lv_imul hx hb dX10_crushes_59 ?_
  refine lv_bipush (v := (100 : Int32)) hx hb dX10_crushes_60 (by decide) ?_
  refine lv_idiv hx hb dX10_crushes_62 (by decide) ?_
  refine lv_topi (fun y1 ey1 => ?_)
  have h := h y1 ey1
  refine lv_istore (lv' := [(5, .int y1), (4, .int z0), (0, .ref (a 0)), (1, .int x1), (2, .int x2), (3, .int x3)]) hx hb dX10_crushes_63 hl (by decide) rfl (fun ls hl => ?_)
  refine lv_iload hx hb dX10_crushes_65 (lv_at hl 1 rfl) ?_
  refine lv_iload_n hx hb dX10_crushes_67 rfl (lv_at hl 4 rfl) ?_
  refine lv_imul hx hb dX10_crushes_68 ?_
  refine lv_iload_n hx hb dX10_crushes_69 rfl (lv_at hl 5 rfl) ?_
  refine lv_imul hx hb dX10_crushes_70 ?_
  refine lv_bipush (v := (100 : Int32)) hx hb dX10_crushes_71 (by decide) ?_
  refine lv_idiv hx hb dX10_crushes_73 (by decide) ?_
  refine lv_topi (fun y2 ey2 => ?_)
  have h := h y2 ey2
  refine lv_istore (lv' := [(6, .int y2), (5, .int y1), (4, .int z0), (0, .ref (a 0)), (1, .int x1), (2, .int x2), (3, .int x3)]) hx hb dX10_crushes_74 hl (by decide) rfl (fun ls hl => ?_)
  refine lv_iload_n hx hb dX10_crushes_76 rfl (lv_at hl 4 rfl) ?_
  refine lv_iload hx hb dX10_crushes_77 (lv_at hl 2 rfl) ?_
  refine lv_isub hx hb dX10_crushes_79 ?_
  refine lv_topi (fun y3 ey3 => ?_)
  have h := h y3 ey3
  refine lv_istore_n (lv' := [(1, .int y3), (6, .int y2), (5, .int y1), (4, .int z0), (0, .ref (a 0)), (2, .int x2), (3, .int x3)]) hx hb dX10_crushes_80 rfl hl (by decide) rfl (fun ls hl => ?_)
  refine lv_aload_n hx hb dX10_crushes_81 rfl (lv_at hl 4 rfl) ?_
  refine va_get (D := G.1) (ci := 10) (v := .ref (a 1)) (C := RX10) (T := TX10) (N := 15) hx hb hts iX10_crushes_X10 hown hKn.k hP 0 rfl rfl 1 (by decide) (hts _ lX10_crushes_f7) (fun _ h9 => h9) rfl dX10_crushes_82 ?_
  refine lv_bipush (v := (16 : Int32)) hx hb dX10_crushes_85 (by decide) ?_
  refine lv_iload_n hx hb dX10_crushes_87 rfl (lv_at hl 6 rfl) ?_
  refine lv_iadd hx hb dX10_crushes_88 ?_
  refine lv_dup2_11 hx hb dX10_crushes_89 rfl rfl ?_
  obtain ⟨hin, h⟩ := h
  refine va_iald hx hb hKn.k hP 1 0 rfl rfl hin dX10_crushes_90 ?_
  refine lv_iload hx hb dX10_crushes_91 (lv_at hl 3 rfl) ?_
  refine lv_isub hx hb dX10_crushes_93 ?_
  refine lv_topi (fun y4 ey4 => ?_)
  have h := h y4 ey4
  obtain ⟨hin, h⟩ := h
  refine va_iast hx hb hKn.k hP hD hS 1 0 rfl rfl hin dX10_crushes_94 (fun H locs hP hD hS => ?_)
  obtain ⟨q5, eq5⟩ : ∃ z : qS, z = up2 q 1 (Int32.toNatClampNeg ((16 : Int32) + x3)) y4 := ⟨_, rfl⟩
  have hP : va_P G.1 vwCl (wM G a q5 ++ R) H := by rw [eq5]; exact hP
  have hD : va_D A (wM G a q5 ++ R) := by rw [eq5]; exact hD
  have h := h q5 eq5
  refine lv_aload_n hx hb dX10_crushes_95 rfl (lv_at hl 4 rfl) ?_
  refine va_get (D := G.1) (ci := 10) (v := .ref (a 1)) (C := RX10) (T := TX10) (N := 15) hx hb hts iX10_crushes_X10 hown hKn.k hP 0 rfl rfl 1 (by decide) (hts _ lX10_crushes_f7) (fun _ h9 => h9) rfl dX10_crushes_96 ?_
  refine lv_bipush (v := (14 : Int32)) hx hb dX10_crushes_99 (by decide) ?_
  refine lv_dup2_11 hx hb dX10_crushes_101 rfl rfl ?_
  refine va_iald hx hb hKn.k hP 1 0 rfl rfl (by unfold vp_in; decide) dX10_crushes_102 ?_
  refine lv_iload hx hb dX10_crushes_103 (lv_at hl 2 rfl) ?_
  refine lv_iadd hx hb dX10_crushes_105 ?_
  refine lv_topi (fun y6 ey6 => ?_)
  have h := h y6 ey6
  refine va_iast hx hb hKn.k hP hD hS 1 0 rfl rfl (by unfold vp_in; decide) dX10_crushes_106 (fun H locs hP hD hS => ?_)
  obtain ⟨q7, eq7⟩ : ∃ z : qS, z = up2 q5 1 14 y6 := ⟨_, rfl⟩
  have hP : va_P G.1 vwCl (wM G a q7 ++ R) H := by rw [eq7]; exact hP
  have hD : va_D A (wM G a q7 ++ R) := by rw [eq7]; exact hD
  have h := h q7 eq7
  refine lv_aload_n hx hb dX10_crushes_107 rfl (lv_at hl 4 rfl) ?_
  refine va_get (D := G.1) (ci := 10) (v := .ref (a 1)) (C := RX10) (T := TX10) (N := 15) hx hb hts iX10_crushes_X10 hown hKn.k hP 0 rfl rfl 1 (by decide) (hts _ lX10_crushes_f7) (fun _ h9 => h9) rfl dX10_crushes_108 ?_
  refine lv_bipush (v := (15 : Int32)) hx hb dX10_crushes_111 (by decide) ?_
  refine lv_dup2_11 hx hb dX10_crushes_113 rfl rfl ?_
  refine va_iald hx hb hKn.k hP 1 0 rfl rfl (by unfold vp_in; decide) dX10_crushes_114 ?_
  refine lv_iload hx hb dX10_crushes_115 (lv_at hl 3 rfl) ?_
  refine lv_iload hx hb dX10_crushes_117 (lv_at hl 2 rfl) ?_
  refine lv_isub hx hb dX10_crushes_119 ?_
  refine lv_iload hx hb dX10_crushes_120 (lv_at hl 1 rfl) ?_
  refine lv_isub hx hb dX10_crushes_122 ?_
  refine lv_iadd hx hb dX10_crushes_123 ?_
  refine lv_topi (fun y8 ey8 => ?_)
  have h := h y8 ey8
  refine va_iast hx hb hKn.k hP hD hS 1 0 rfl rfl (by unfold vp_in; decide) dX10_crushes_124 (fun H locs hP hD hS => ?_)
  obtain ⟨q9, eq9⟩ : ∃ z : qS, z = up2 q7 1 15 y8 := ⟨_, rfl⟩
  have hP : va_P G.1 vwCl (wM G a q9 ++ R) H := by rw [eq9]; exact hP
  have hD : va_D A (wM G a q9 ++ R) := by rw [eq9]; exact hD
  have h := h q9 eq9
  refine lv_aload_n hx hb dX10_crushes_125 rfl (lv_at hl 4 rfl) ?_
  refine va_get (D := G.1) (ci := 10) (v := .ref (a 1)) (C := RX10) (T := TX10) (N := 15) hx hb hts iX10_crushes_X10 hown hKn.k hP 0 rfl rfl 1 (by decide) (hts _ lX10_crushes_f7) (fun _ h9 => h9) rfl dX10_crushes_126 ?_
  refine lv_bipush (v := (16 : Int32)) hx hb dX10_crushes_129 (by decide) ?_
  refine lv_dup2_11 hx hb dX10_crushes_131 rfl rfl ?_
  refine va_iald hx hb hKn.k hP 1 0 rfl rfl (by unfold vp_in; decide) dX10_crushes_132 ?_
  refine lv_iload hx hb dX10_crushes_133 (lv_at hl 1 rfl) ?_
  refine lv_iadd hx hb dX10_crushes_135 ?_
  refine lv_topi (fun y10 ey10 => ?_)
  have h := h y10 ey10
  refine va_iast hx hb hKn.k hP hD hS 1 0 rfl rfl (by unfold vp_in; decide) dX10_crushes_136 (fun H locs hP hD hS => ?_)
  obtain ⟨q11, eq11⟩ : ∃ z : qS, z = up2 q9 1 16 y10 := ⟨_, rfl⟩
  have hP : va_P G.1 vwCl (wM G a q11 ++ R) H := by rw [eq11]; exact hP
  have hD : va_D A (wM G a q11 ++ R) := by rw [eq11]; exact hD
  have h := h q11 eq11
  refine lv_aload_n hx hb dX10_crushes_137 rfl (lv_at hl 4 rfl) ?_
  refine va_get (D := G.1) (ci := 10) (v := .ref (a 1)) (C := RX10) (T := TX10) (N := 15) hx hb hts iX10_crushes_X10 hown hKn.k hP 0 rfl rfl 1 (by decide) (hts _ lX10_crushes_f7) (fun _ h9 => h9) rfl dX10_crushes_138 ?_
  refine lv_bipush (v := (9 : Int32)) hx hb dX10_crushes_141 (by decide) ?_
  refine lv_dup2_11 hx hb dX10_crushes_143 rfl rfl ?_
  refine va_iald hx hb hKn.k hP 1 0 rfl rfl (by unfold vp_in; decide) dX10_crushes_144 ?_
  refine lv_iload hx hb dX10_crushes_145 (lv_at hl 3 rfl) ?_
  refine lv_iadd hx hb dX10_crushes_147 ?_
  refine lv_topi (fun y12 ey12 => ?_)
  have h := h y12 ey12
  refine va_iast hx hb hKn.k hP hD hS 1 0 rfl rfl (by unfold vp_in; decide) dX10_crushes_148 (fun H locs hP hD hS => ?_)
  obtain ⟨q13, eq13⟩ : ∃ z : qS, z = up2 q11 1 9 y12 := ⟨_, rfl⟩
  have hP : va_P G.1 vwCl (wM G a q13 ++ R) H := by rw [eq13]; exact hP
  have hD : va_D A (wM G a q13 ++ R) := by rw [eq13]; exact hD
  have h := h q13 eq13
  refine lv_aload_n hx hb dX10_crushes_149 rfl (lv_at hl 4 rfl) ?_
  refine va_get (D := G.1) (ci := 10) (v := .ref (a 1)) (C := RX10) (T := TX10) (N := 15) hx hb hts iX10_crushes_X10 hown hKn.k hP 0 rfl rfl 1 (by decide) (hts _ lX10_crushes_f7) (fun _ h9 => h9) rfl dX10_crushes_150 ?_
  refine lv_bipush (v := (10 : Int32)) hx hb dX10_crushes_153 (by decide) ?_
  refine lv_dup2_11 hx hb dX10_crushes_155 rfl rfl ?_
  refine va_iald hx hb hKn.k hP 1 0 rfl rfl (by unfold vp_in; decide) dX10_crushes_156 ?_
  refine lv_iload hx hb dX10_crushes_157 (lv_at hl 3 rfl) ?_
  refine lv_iload_n hx hb dX10_crushes_159 rfl (lv_at hl 6 rfl) ?_
  refine lv_imul hx hb dX10_crushes_160 ?_
  refine lv_iadd hx hb dX10_crushes_161 ?_
  refine lv_topi (fun y14 ey14 => ?_)
  have h := h y14 ey14
  refine va_iast hx hb hKn.k hP hD hS 1 0 rfl rfl (by unfold vp_in; decide) dX10_crushes_162 (fun H locs hP hD hS => ?_)
  obtain ⟨q15, eq15⟩ : ∃ z : qS, z = up2 q13 1 10 y14 := ⟨_, rfl⟩
  have hP : va_P G.1 vwCl (wM G a q15 ++ R) H := by rw [eq15]; exact hP
  have hD : va_D A (wM G a q15 ++ R) := by rw [eq15]; exact hD
  have h := h q15 eq15
  obtain ⟨y16, ey16⟩ : ∃ z : Int32, z = x3 + (1 : Int32) := ⟨_, rfl⟩
  have h := h y16 ey16
  refine lv_iinc (v := y16) (lv' := [(3, .int y16), (1, .int y3), (6, .int y2), (5, .int y1), (4, .int z0), (0, .ref (a 0)), (2, .int x2)]) hx hb dX10_crushes_163 hl (k := 6) rfl (by rw [ey16]; rfl) (by decide) rfl (fun ls hl => ?_)
  refine lv_goto (tgt := 14) hx hb dX10_crushes_166 (by decide) ?_
  exact hkb14 q15 y3 x2 y16 _ _ _ h hP hD hS (lv_sub hl [5, 1, 6, 0] rfl)
set_option maxHeartbeats 4000000 in
set_option maxRecDepth 100000 in
theorem kX10_crushes_b14 {p : Program} {l : Launch} {e : Env} {s : State} {m : MethodId} {args : Array Value} {below : List Frame} {meth : Method} {c : Code} {G : qG} {A : Nat → Prop} {Qf : State → Prop} {R : va_W} {a : Nat → Nat} {k : qS → Prop} (hx : p.tables.exec = Jvm.exec) (hb : c.code = cX10_crushes) (hml : c.maxLocals = 7) (hown : s.vm.findClass RX10 = some m.cls) (hts : ∀ w ∈ wsX10_crushes, w.before args s = true) (hA : ∀ q : Nat, s.heap.size ≤ q → A q) (hKn : qKn G A s s.heap) (hret : ∀ (q : qS) (H : Heap) (locs : List Loc) (ls : Array Slot) (pc : Nat), k q → va_P G.1 vwCl (wM G a q ++ R) H → va_D A (wM G a q ++ R) → va_S A s.heap H locs → decode cX10_crushes pc = .ok (.return_, 1) → W p l e rmX10_crushes s m args below meth c H locs 0 0 Qf (F0 m pc ls [])) : ∀ (n : Nat) (q : qS) (x1 : Int32) (x2 : Int32) (x3 : Int32) (H : Heap) (locs : List Loc) (ls : Array Slot), wX10_crushes_b14 k n q x1 x2 x3 → va_P G.1 vwCl (wM G a q ++ R) H → va_D A (wM G a q ++ R) → va_S A s.heap H locs → lv_has ls 7 [(0, .ref (a 0)), (1, .int x1), (2, .int x2), (3, .int x3)] → W p l e rmX10_crushes s m args below meth c H locs 0 0 Qf (F0 m 14 ls []) := by
  intro n
  induction n with
  | zero => intros; rename_i h _ _ _ _; exact h.elim
  | succ n ih =>
    intro q x1 x2 x3 H locs ls h hP hD hS hl
    unfold wX10_crushes_b14 at h
    refine lv_iload_n hx hb dX10_crushes_14 rfl (lv_at hl 3 rfl) ?_
    refine lv_bipush (v := (10 : Int32)) hx hb dX10_crushes_15 (by decide) ?_
    refine lv_icmp_ge (tgt := 169) hx hb dX10_crushes_17 (by decide) (fun c1 => ?_) (fun c1 => ?_)
    · have h := h.1 c1
      exact hret _ _ _ _ _ h hP hD hS dX10_crushes_169
    · have h := h.2 c1
      refine lv_aload_n hx hb dX10_crushes_20 rfl (lv_at hl 0 rfl) ?_
      refine va_get (D := G.1) (ci := 10) (v := .ref (a 1)) (C := RX10) (T := TX10) (N := 15) hx hb hts iX10_crushes_X10 hown hKn.k hP 0 rfl rfl 1 (by decide) (hts _ lX10_crushes_f7) (fun _ h9 => h9) rfl dX10_crushes_21 ?_
      refine lv_bipush (v := (16 : Int32)) hx hb dX10_crushes_24 (by decide) ?_
      refine lv_iload_n hx hb dX10_crushes_26 rfl (lv_at hl 3 rfl) ?_
      refine lv_iadd hx hb dX10_crushes_27 ?_
      obtain ⟨hin, h⟩ := h
      refine va_iald hx hb hKn.k hP 1 0 rfl rfl hin dX10_crushes_28 ?_
      refine lv_iload_n hx hb dX10_crushes_29 rfl (lv_at hl 1 rfl) ?_
      refine lv_icmp_ge (tgt := 45) hx hb dX10_crushes_30 (by decide) (fun c1 => ?_) (fun c1 => ?_)
      · have h := h.1 c1
        refine lv_iload_n hx hb dX10_crushes_45 rfl (lv_at hl 1 rfl) ?_
        exact kX10_crushes_b46 hx hb hml hown hts hA hKn hret ih q x1 x2 x3 x1 _ _ _ h hP hD hS (lv_sub hl [0, 1, 2, 3] rfl)
      · have h := h.2 c1
        refine lv_aload_n hx hb dX10_crushes_33 rfl (lv_at hl 0 rfl) ?_
        refine va_get (D := G.1) (ci := 10) (v := .ref (a 1)) (C := RX10) (T := TX10) (N := 15) hx hb hts iX10_crushes_X10 hown hKn.k hP 0 rfl rfl 1 (by decide) (hts _ lX10_crushes_f7) (fun _ h9 => h9) rfl dX10_crushes_34 ?_
        refine lv_bipush (v := (16 : Int32)) hx hb dX10_crushes_37 (by decide) ?_
        refine lv_iload_n hx hb dX10_crushes_39 rfl (lv_at hl 3 rfl) ?_
        refine lv_iadd hx hb dX10_crushes_40 ?_
        obtain ⟨hin, h⟩ := h
        refine va_iald hx hb hKn.k hP 1 0 rfl rfl hin dX10_crushes_41 ?_
        refine lv_goto (tgt := 46) hx hb dX10_crushes_42 (by decide) ?_
        exact kX10_crushes_b46 hx hb hml hown hts hA hKn hret ih q x1 x2 x3 (q 1 (Int32.toNatClampNeg ((16 : Int32) + x3))) _ _ _ h hP hD hS (lv_sub hl [0, 1, 2, 3] rfl)
set_option maxHeartbeats 4000000 in
set_option maxRecDepth 100000 in
theorem mX10_crushes (l : Launch) (G : qG) (k : qS → Prop) (R : va_W) (a : Nat → Nat) (q : qS) (sz : Nat) : Met l yX10_crushes wsX10_crushes rmX10_crushes (qPc G [.ref (a 0)] (wM G a q ++ R) sz (wX10_crushes k q)) (qQv G (wM G a q ++ R) sz (fun (u : qS) => k u) (fun (u : qS) => wM G a u ++ R)) 0 0 (va_A (wM G a q ++ R) sz) := by
  refine Met.ofW (cc := cX10_crushes) (maxL := 7) (ret := none) (by decide) rfl ?_
  intro p e s m args below meth c s₁ B hml hv
  obtain ⟨rfl, hsz, hP, hD0, hKn0, h⟩ := hv
  have hx := B.exec
  have hb := B.bytes
  have hr := B.returns
  have hts := atoms_spec (ws := wsX10_crushes) B.pre
  have hown : s.vm.findClass RX10 = some m.cls := findClass_of_methodNamed B.named
  have hlocks := B.notSynchronized
  subst hsz
  have hD := hD0.self (sz := s.heap.size)
  generalize hAe : va_A (wM G a q ++ R) s.heap.size = A at hD hKn0 ⊢
  have hA : ∀ q : Nat, s.heap.size ≤ q → A q := fun q h => by rw [← hAe]; exact Or.inr h
  have hKn : qKn G A s s.heap := hKn0
  have hS : va_S A s.heap s.heap [] := va_S.rf
  have hret : ∀ (q' : qS) (H : Heap) (locs : List Loc) (ls : Array Slot) (pc : Nat), k q' → va_P G.1 vwCl (wM G a q' ++ R) H → va_D A (wM G a q' ++ R) → va_S A s.heap H locs → decode cX10_crushes pc = .ok (.return_, 1) → W p l e rmX10_crushes s m #[.ref (a 0)] below meth c H locs 0 0 (MQ below (qQv G (wM G a q ++ R) s.heap.size (fun (u : qS) => k u) (fun (u : qS) => wM G a u ++ R)) #[.ref (a 0)] s 0 0 A) (F0 m pc ls []) := fun q' H locs ls pc hk hP hD hS hd => W.vret hx hb hr (fun t ht hW => q_rv (u := (q' : qS)) hAe hk hP hD hS ht) hS.2.2 hd
  have hl := lv_entry ([.ref (a 0)]) (n := 7) (Nat.le_of_ble_eq_true rfl)
  rw [lg_entry_eq]
  generalize (lg_sl ([.ref (a 0)]) ++ List.replicate (7 - (lg_sl ([.ref (a 0)])).length) Slot.unset).toArray = ls at hl ⊢
  have hl : lv_has ls 7 [(0, .ref (a 0))] := hl
  unfold wX10_crushes at h
  show W p l e rmX10_crushes s m #[.ref (a 0)] below meth c s.heap [] 0 0 _ _
  refine lv_aload_n hx hb dX10_crushes_0 rfl (lv_at hl 0 rfl) ?_
  refine qc_vi (As := []) (rest := []) ⟨hx, hb, hml, hown, hts⟩ (mX10_capacity l G _ _ a q _ ) (cwV 0 hts gX10_crushes_X10_capacity rfl rfl rfl (by decide +kernel) ⟨Nat.le_of_ble_eq_true rfl, Nat.le_of_ble_eq_true rfl⟩) hP hD hS hA hKn 0 10 rfl rfl rfl h rfl hl.1 rfl (Nat.le_of_ble_eq_true rfl) dX10_crushes_1 ⟨Nat.zero_le _, Nat.zero_le _⟩ (fun r17 q18 H locs h hP hD hS => ?_)
  have hP : va_P G.1 vwCl (wM G a q18 ++ R) H := hP
  have hD : va_D A (wM G a q18 ++ R) := hD
  refine lv_istore_n (lv' := [(1, .int r17), (0, .ref (a 0))]) hx hb dX10_crushes_4 rfl hl (by decide) rfl (fun ls hl => ?_)
  refine lv_aload_n hx hb dX10_crushes_5 rfl (lv_at hl 1 rfl) ?_
  refine va_get (D := G.1) (ci := 10) (v := .ref (a 1)) (C := RX10) (T := TX10) (N := 15) hx hb hts iX10_crushes_X10 hown hKn.k hP 0 rfl rfl 1 (by decide) (hts _ lX10_crushes_f7) (fun _ h9 => h9) rfl dX10_crushes_6 ?_
  refine lv_iconst (v := (3 : Int32)) hx hb dX10_crushes_9 (by decide) ?_
  refine va_iald hx hb hKn.k hP 1 0 rfl rfl (by unfold vp_in; decide) dX10_crushes_10 ?_
  refine lv_topi (fun y19 ey19 => ?_)
  have h := h y19 ey19
  refine lv_istore_n (lv' := [(2, .int y19), (1, .int r17), (0, .ref (a 0))]) hx hb dX10_crushes_11 rfl hl (by decide) rfl (fun ls hl => ?_)
  refine lv_iconst (v := (1 : Int32)) hx hb dX10_crushes_12 (by decide) ?_
  refine lv_istore_n (lv' := [(3, .int (1 : Int32)), (2, .int y19), (1, .int r17), (0, .ref (a 0))]) hx hb dX10_crushes_13 rfl hl (by decide) rfl (fun ls hl => ?_)
  obtain ⟨n20, h⟩ := h
  exact kX10_crushes_b14 hx hb hml hown hts hA hKn hret n20 q18 r17 y19 (1 : Int32) _ _ _ h hP hD hS (lv_sub hl [3, 2, 1, 0] rfl)
abbrev rmX10_hour : Room := { frames := 3, cells := 0, slots := 0, locals := 68 }
theorem lX10_hour_f7 : Cond.fieldLink RX10 7 "QuarryBlendsModel" "s" "[I" ∈ wsX10_hour := by decide +kernel
theorem iX10_hour_X10 : ∀ w ∈ wsX100, w ∈ wsX10_hour := by decide +kernel
set_option maxHeartbeats 4000000 in
set_option maxRecDepth 100000 in
theorem kX10_hour_b25 {p : Program} {l : Launch} {e : Env} {s : State} {m : MethodId} {args : Array Value} {below : List Frame} {meth : Method} {c : Code} {G : qG} {A : Nat → Prop} {Qf : State → Prop} {R : va_W} {a : Nat → Nat} {k : qS → Prop} (hx : p.tables.exec = Jvm.exec) (hb : c.code = cX10_hour) (hml : c.maxLocals = 2) (hown : s.vm.findClass RX10 = some m.cls) (hts : ∀ w ∈ wsX10_hour, w.before args s = true) (hA : ∀ q : Nat, s.heap.size ≤ q → A q) (hKn : qKn G A s s.heap) (hret : ∀ (q : qS) (H : Heap) (locs : List Loc) (ls : Array Slot) (pc : Nat), k q → va_P G.1 vwCl (wM G a q ++ R) H → va_D A (wM G a q ++ R) → va_S A s.heap H locs → decode cX10_hour pc = .ok (.return_, 1) → W p l e rmX10_hour s m args below meth c H locs 0 0 Qf (F0 m pc ls [])) : ∀ (n : Nat) (q : qS) (x1 : Int32) (H : Heap) (locs : List Loc) (ls : Array Slot), wX10_hour_b25 k n q x1 → va_P G.1 vwCl (wM G a q ++ R) H → va_D A (wM G a q ++ R) → va_S A s.heap H locs → lv_has ls 2 [(0, .ref (a 0)), (1, .int x1)] → W p l e rmX10_hour s m args below meth c H locs 0 0 Qf (F0 m 25 ls []) := by
  intro n
  induction n with
  | zero => intros; rename_i h _ _ _ _; exact h.elim
  | succ n ih =>
    intro q x1 H locs ls h hP hD hS hl
    unfold wX10_hour_b25 at h
    refine lv_iload_n hx hb dX10_hour_25 rfl (lv_at hl 1 rfl) ?_
    refine lv_aload_n hx hb dX10_hour_26 rfl (lv_at hl 0 rfl) ?_
    refine va_get (D := G.1) (ci := 10) (v := .ref (a 1)) (C := RX10) (T := TX10) (N := 15) hx hb hts iX10_hour_X10 hown hKn.k hP 0 rfl rfl 1 (by decide) (hts _ lX10_hour_f7) (fun _ h9 => h9) rfl dX10_hour_27 ?_
    refine lv_iconst (v := (0 : Int32)) hx hb dX10_hour_30 (by decide) ?_
    refine va_iald hx hb hKn.k hP 1 0 rfl rfl (by unfold vp_in; decide) dX10_hour_31 ?_
    refine lv_icmp_ge (tgt := 46) hx hb dX10_hour_32 (by decide) (fun c1 => ?_) (fun c1 => ?_)
    · have h := h.1 c1
      refine lv_aload_n hx hb dX10_hour_46 rfl (lv_at hl 0 rfl) ?_
      refine qc_vv (As := []) (rest := []) ⟨hx, hb, hml, hown, hts⟩ (mX10_crushes l G _ _ a q _ ) (cwV 0 hts gX10_hour_X10_crushes rfl rfl rfl (by decide +kernel) ⟨Nat.le_of_ble_eq_true rfl, Nat.le_of_ble_eq_true rfl⟩) hP hD hS hA hKn 0 10 rfl rfl rfl h rfl hl.1 rfl (Nat.le_of_ble_eq_true rfl) dX10_hour_47 ⟨Nat.zero_le _, Nat.zero_le _⟩ (fun q2 H locs h hP hD hS => ?_)
      have hP : va_P G.1 vwCl (wM G a q2 ++ R) H := hP
      have hD : va_D A (wM G a q2 ++ R) := hD
      refine lv_aload_n hx hb dX10_hour_50 rfl (lv_at hl 0 rfl) ?_
      refine va_get (D := G.1) (ci := 10) (v := .ref (a 1)) (C := RX10) (T := TX10) (N := 15) hx hb hts iX10_hour_X10 hown hKn.k hP 0 rfl rfl 1 (by decide) (hts _ lX10_hour_f7) (fun _ h9 => h9) rfl dX10_hour_51 ?_
      refine lv_bipush (v := (6 : Int32)) hx hb dX10_hour_54 (by decide) ?_
      refine lv_dup2_11 hx hb dX10_hour_56 rfl rfl ?_
      refine va_iald hx hb hKn.k hP 1 0 rfl rfl (by unfold vp_in; decide) dX10_hour_57 ?_
      refine lv_iconst (v := (1 : Int32)) hx hb dX10_hour_58 (by decide) ?_
      refine lv_iadd hx hb dX10_hour_59 ?_
      refine lv_topi (fun y3 ey3 => ?_)
      have h := h y3 ey3
      refine va_iast hx hb hKn.k hP hD hS 1 0 rfl rfl (by unfold vp_in; decide) dX10_hour_60 (fun H locs hP hD hS => ?_)
      obtain ⟨q4, eq4⟩ : ∃ z : qS, z = up2 q2 1 6 y3 := ⟨_, rfl⟩
      have hP : va_P G.1 vwCl (wM G a q4 ++ R) H := by rw [eq4]; exact hP
      have hD : va_D A (wM G a q4 ++ R) := by rw [eq4]; exact hD
      have h := h q4 eq4
      exact hret _ _ _ _ _ h hP hD hS dX10_hour_61
    · have h := h.2 c1
      refine lv_aload_n hx hb dX10_hour_35 rfl (lv_at hl 0 rfl) ?_
      refine lv_iload_n hx hb dX10_hour_36 rfl (lv_at hl 1 rfl) ?_
      refine qc_vv (As := [.int x1]) (rest := []) ⟨hx, hb, hml, hown, hts⟩ (mX10_goes l G _ _ a q _ x1) (cwV 1 hts gX10_hour_X10_goes rfl rfl rfl (by decide +kernel) ⟨Nat.le_of_ble_eq_true rfl, Nat.le_of_ble_eq_true rfl⟩) hP hD hS hA hKn 0 10 rfl rfl rfl h rfl hl.1 rfl (Nat.le_of_ble_eq_true rfl) dX10_hour_37 ⟨Nat.zero_le _, Nat.zero_le _⟩ (fun q6 H locs h hP hD hS => ?_)
      have hP : va_P G.1 vwCl (wM G a q6 ++ R) H := hP
      have hD : va_D A (wM G a q6 ++ R) := hD
      obtain ⟨y7, ey7⟩ : ∃ z : Int32, z = x1 + (1 : Int32) := ⟨_, rfl⟩
      have h := h y7 ey7
      refine lv_iinc (v := y7) (lv' := [(1, .int y7), (0, .ref (a 0))]) hx hb dX10_hour_40 hl (k := 1) rfl (by rw [ey7]; rfl) (by decide) rfl (fun ls hl => ?_)
      refine lv_goto (tgt := 25) hx hb dX10_hour_43 (by decide) ?_
      exact ih q6 y7 _ _ _ h hP hD hS (lv_sub hl [1, 0] rfl)
set_option maxHeartbeats 4000000 in
set_option maxRecDepth 100000 in
theorem kX10_hour_b2 {p : Program} {l : Launch} {e : Env} {s : State} {m : MethodId} {args : Array Value} {below : List Frame} {meth : Method} {c : Code} {G : qG} {A : Nat → Prop} {Qf : State → Prop} {R : va_W} {a : Nat → Nat} {k : qS → Prop} (hx : p.tables.exec = Jvm.exec) (hb : c.code = cX10_hour) (hml : c.maxLocals = 2) (hown : s.vm.findClass RX10 = some m.cls) (hts : ∀ w ∈ wsX10_hour, w.before args s = true) (hA : ∀ q : Nat, s.heap.size ≤ q → A q) (hKn : qKn G A s s.heap) (hret : ∀ (q : qS) (H : Heap) (locs : List Loc) (ls : Array Slot) (pc : Nat), k q → va_P G.1 vwCl (wM G a q ++ R) H → va_D A (wM G a q ++ R) → va_S A s.heap H locs → decode cX10_hour pc = .ok (.return_, 1) → W p l e rmX10_hour s m args below meth c H locs 0 0 Qf (F0 m pc ls [])) : ∀ (n : Nat) (q : qS) (x1 : Int32) (H : Heap) (locs : List Loc) (ls : Array Slot), wX10_hour_b2 k n q x1 → va_P G.1 vwCl (wM G a q ++ R) H → va_D A (wM G a q ++ R) → va_S A s.heap H locs → lv_has ls 2 [(0, .ref (a 0)), (1, .int x1)] → W p l e rmX10_hour s m args below meth c H locs 0 0 Qf (F0 m 2 ls []) := by
  intro n
  induction n with
  | zero => intros; rename_i h _ _ _ _; exact h.elim
  | succ n ih =>
    intro q x1 H locs ls h hP hD hS hl
    unfold wX10_hour_b2 at h
    refine lv_iload_n hx hb dX10_hour_2 rfl (lv_at hl 1 rfl) ?_
    refine lv_aload_n hx hb dX10_hour_3 rfl (lv_at hl 0 rfl) ?_
    refine va_get (D := G.1) (ci := 10) (v := .ref (a 1)) (C := RX10) (T := TX10) (N := 15) hx hb hts iX10_hour_X10 hown hKn.k hP 0 rfl rfl 1 (by decide) (hts _ lX10_hour_f7) (fun _ h9 => h9) rfl dX10_hour_4 ?_
    refine lv_iconst (v := (0 : Int32)) hx hb dX10_hour_7 (by decide) ?_
    refine va_iald hx hb hKn.k hP 1 0 rfl rfl (by unfold vp_in; decide) dX10_hour_8 ?_
    refine lv_icmp_ge (tgt := 23) hx hb dX10_hour_9 (by decide) (fun c1 => ?_) (fun c1 => ?_)
    · have h := h.1 c1
      refine lv_iconst (v := (0 : Int32)) hx hb dX10_hour_23 (by decide) ?_
      refine lv_istore_n (lv' := [(1, .int (0 : Int32)), (0, .ref (a 0))]) hx hb dX10_hour_24 rfl hl (by decide) rfl (fun ls hl => ?_)
      obtain ⟨n8, h⟩ := h
      exact kX10_hour_b25 hx hb hml hown hts hA hKn hret n8 q (0 : Int32) _ _ _ h hP hD hS (lv_sub hl [1, 0] rfl)
    · have h := h.2 c1
      refine lv_aload_n hx hb dX10_hour_12 rfl (lv_at hl 0 rfl) ?_
      refine lv_iload_n hx hb dX10_hour_13 rfl (lv_at hl 1 rfl) ?_
      refine qc_vv (As := [.int x1]) (rest := []) ⟨hx, hb, hml, hown, hts⟩ (mX10_comesBack l G _ _ a q _ x1) (cwV 1 hts gX10_hour_X10_comesBack rfl rfl rfl (by decide +kernel) ⟨Nat.le_of_ble_eq_true rfl, Nat.le_of_ble_eq_true rfl⟩) hP hD hS hA hKn 0 10 rfl rfl rfl h rfl hl.1 rfl (Nat.le_of_ble_eq_true rfl) dX10_hour_14 ⟨Nat.zero_le _, Nat.zero_le _⟩ (fun q10 H locs h hP hD hS => ?_)
      have hP : va_P G.1 vwCl (wM G a q10 ++ R) H := hP
      have hD : va_D A (wM G a q10 ++ R) := hD
      obtain ⟨y11, ey11⟩ : ∃ z : Int32, z = x1 + (1 : Int32) := ⟨_, rfl⟩
      have h := h y11 ey11
      refine lv_iinc (v := y11) (lv' := [(1, .int y11), (0, .ref (a 0))]) hx hb dX10_hour_17 hl (k := 1) rfl (by rw [ey11]; rfl) (by decide) rfl (fun ls hl => ?_)
      refine lv_goto (tgt := 2) hx hb dX10_hour_20 (by decide) ?_
      exact ih q10 y11 _ _ _ h hP hD hS (lv_sub hl [1, 0] rfl)
set_option maxHeartbeats 4000000 in
set_option maxRecDepth 100000 in
theorem mX10_hour (l : Launch) (G : qG) (k : qS → Prop) (R : va_W) (a : Nat → Nat) (q : qS) (sz : Nat) : Met l yX10_hour wsX10_hour rmX10_hour (qPc G [.ref (a 0)] (wM G a q ++ R) sz (wX10_hour k q)) (qQv G (wM G a q ++ R) sz (fun (u : qS) => k u) (fun (u : qS) => wM G a u ++ R)) 0 0 (va_A (wM G a q ++ R) sz) := by
  refine Met.ofW (cc := cX10_hour) (maxL := 2) (ret := none) (by decide) rfl ?_
  intro p e s m args below meth c s₁ B hml hv
  obtain ⟨rfl, hsz, hP, hD0, hKn0, h⟩ := hv
  have hx := B.exec
  have hb := B.bytes
  have hr := B.returns
  have hts := atoms_spec (ws := wsX10_hour) B.pre
  have hown : s.vm.findClass RX10 = some m.cls := findClass_of_methodNamed B.named
  have hlocks := B.notSynchronized
  subst hsz
  have hD := hD0.self (sz := s.heap.size)
  generalize hAe : va_A (wM G a q ++ R) s.heap.size = A at hD hKn0 ⊢
  have hA : ∀ q : Nat, s.heap.size ≤ q → A q := fun q h => by rw [← hAe]; exact Or.inr h
  have hKn : qKn G A s s.heap := hKn0
  have hS : va_S A s.heap s.heap [] := va_S.rf
  have hret : ∀ (q' : qS) (H : Heap) (locs : List Loc) (ls : Array Slot) (pc : Nat), k q' → va_P G.1 vwCl (wM G a q' ++ R) H → va_D A (wM G a q' ++ R) → va_S A s.heap H locs → decode cX10_hour pc = .ok (.return_, 1) → W p l e rmX10_hour s m #[.ref (a 0)] below meth c H locs 0 0 (MQ below (qQv G (wM G a q ++ R) s.heap.size (fun (u : qS) => k u) (fun (u : qS) => wM G a u ++ R)) #[.ref (a 0)] s 0 0 A) (F0 m pc ls []) := fun q' H locs ls pc hk hP hD hS hd => W.vret hx hb hr (fun t ht hW => q_rv (u := (q' : qS)) hAe hk hP hD hS ht) hS.2.2 hd
  have hl := lv_entry ([.ref (a 0)]) (n := 2) (Nat.le_of_ble_eq_true rfl)
  rw [lg_entry_eq]
  generalize (lg_sl ([.ref (a 0)]) ++ List.replicate (2 - (lg_sl ([.ref (a 0)])).length) Slot.unset).toArray = ls at hl ⊢
  have hl : lv_has ls 2 [(0, .ref (a 0))] := hl
  unfold wX10_hour at h
  show W p l e rmX10_hour s m #[.ref (a 0)] below meth c s.heap [] 0 0 _ _
  refine lv_iconst (v := (0 : Int32)) hx hb dX10_hour_0 (by decide) ?_
  refine lv_istore_n (lv' := [(1, .int (0 : Int32)), (0, .ref (a 0))]) hx hb dX10_hour_1 rfl hl (by decide) rfl (fun ls hl => ?_)
  obtain ⟨n12, h⟩ := h
  exact kX10_hour_b2 hx hb hml hown hts hA hKn hret n12 q (0 : Int32) _ _ _ h hP hD hS (lv_sub hl [1, 0] rfl)
abbrev rmX10_days : Room := { frames := 4, cells := 0, slots := 0, locals := 89 }
theorem lX10_days_f7 : Cond.fieldLink RX10 7 "QuarryBlendsModel" "s" "[I" ∈ wsX10_days := by decide +kernel
theorem iX10_days_X10 : ∀ w ∈ wsX100, w ∈ wsX10_days := by decide +kernel
set_option maxHeartbeats 4000000 in
set_option maxRecDepth 100000 in
theorem kX10_days_b42 {p : Program} {l : Launch} {e : Env} {s : State} {m : MethodId} {args : Array Value} {below : List Frame} {meth : Method} {c : Code} {G : qG} {A : Nat → Prop} {Qf : State → Prop} {R : va_W} {a : Nat → Nat} {k : Int32 → qS → Prop} (hx : p.tables.exec = Jvm.exec) (hb : c.code = cX10_days) (hml : c.maxLocals = 5) (hown : s.vm.findClass RX10 = some m.cls) (hts : ∀ w ∈ wsX10_days, w.before args s = true) (hA : ∀ q : Nat, s.heap.size ≤ q → A q) (hKn : qKn G A s s.heap) (hret : ∀ (r : Int32) (q : qS) (H : Heap) (locs : List Loc) (ls : Array Slot) (pc : Nat), k r q → va_P G.1 vwCl (wM G a q ++ R) H → va_D A (wM G a q ++ R) → va_S A s.heap H locs → decode cX10_days pc = .ok (.ireturn, 1) → W p l e rmX10_days s m args below meth c H locs 0 0 Qf (F0 m pc ls [.int r])) {kb10 : qS → Int32 → Int32 → Int32 → Prop} (hkb10 : ∀ (q : qS) (x1 : Int32) (x2 : Int32) (x3 : Int32) (H : Heap) (locs : List Loc) (ls : Array Slot), kb10 q x1 x2 x3 → va_P G.1 vwCl (wM G a q ++ R) H → va_D A (wM G a q ++ R) → va_S A s.heap H locs → lv_has ls 5 [(0, .ref (a 0)), (1, .int x1), (2, .int x2), (3, .int x3)] → W p l e rmX10_days s m args below meth c H locs 0 0 Qf (F0 m 10 ls [])) : ∀ (n : Nat) (q : qS) (x1 : Int32) (x2 : Int32) (x3 : Int32) (x4 : Int32) (H : Heap) (locs : List Loc) (ls : Array Slot), wX10_days_b42 k kb10 n q x1 x2 x3 x4 → va_P G.1 vwCl (wM G a q ++ R) H → va_D A (wM G a q ++ R) → va_S A s.heap H locs → lv_has ls 5 [(0, .ref (a 0)), (1, .int x1), (2, .int x2), (3, .int x3), (4, .int x4)] → W p l e rmX10_days s m args below meth c H locs 0 0 Qf (F0 m 42 ls []) := by
  intro n
  induction n with
  | zero => intros; rename_i h _ _ _ _; exact h.elim
  | succ n ih =>
    intro q x1 x2 x3 x4 H locs ls h hP hD hS hl
    unfold wX10_days_b42 at h
    refine lv_iload hx hb dX10_days_42 (lv_at hl 4 rfl) ?_
    refine lv_aload_n hx hb dX10_days_44 rfl (lv_at hl 0 rfl) ?_
    refine va_get (D := G.1) (ci := 10) (v := .ref (a 1)) (C := RX10) (T := TX10) (N := 15) hx hb hts iX10_days_X10 hown hKn.k hP 0 rfl rfl 1 (by decide) (hts _ lX10_days_f7) (fun _ h9 => h9) rfl dX10_days_45 ?_
    refine lv_bipush (v := (8 : Int32)) hx hb dX10_days_48 (by decide) ?_
    refine va_iald hx hb hKn.k hP 1 0 rfl rfl (by unfold vp_in; decide) dX10_days_50 ?_
    refine lv_icmp_ge (tgt := 78) hx hb dX10_days_51 (by decide) (fun c1 => ?_) (fun c1 => ?_)
    · have h := h.1 c1
      obtain ⟨y1, ey1⟩ : ∃ z : Int32, z = x3 + (1 : Int32) := ⟨_, rfl⟩
      have h := h y1 ey1
      refine lv_iinc (v := y1) (lv' := [(3, .int y1), (0, .ref (a 0)), (1, .int x1), (2, .int x2), (4, .int x4)]) hx hb dX10_days_78 hl (k := 3) rfl (by rw [ey1]; rfl) (by decide) rfl (fun ls hl => ?_)
      refine lv_goto (tgt := 10) hx hb dX10_days_81 (by decide) ?_
      exact hkb10 q x1 x2 y1 _ _ _ h hP hD hS (lv_sub hl [1, 2, 3, 0] rfl)
    · have h := h.2 c1
      refine lv_aload_n hx hb dX10_days_54 rfl (lv_at hl 0 rfl) ?_
      refine lv_iload hx hb dX10_days_55 (lv_at hl 4 rfl) ?_
      refine qc_vi (As := [.int x4]) (rest := []) ⟨hx, hb, hml, hown, hts⟩ (mX10_reason l G _ _ a q _ x4) (cwV 1 hts gX10_days_X10_reason rfl rfl rfl (by decide +kernel) ⟨Nat.le_of_ble_eq_true rfl, Nat.le_of_ble_eq_true rfl⟩) hP hD hS hA hKn 0 10 rfl rfl rfl h rfl hl.1 rfl (Nat.le_of_ble_eq_true rfl) dX10_days_57 ⟨Nat.zero_le _, Nat.zero_le _⟩ (fun r2 q3 H locs h hP hD hS => ?_)
      have hP : va_P G.1 vwCl (wM G a q3 ++ R) H := hP
      have hD : va_D A (wM G a q3 ++ R) := hD
      refine lv_if_ne (tgt := 72) hx hb dX10_days_60 (by decide) (fun c1 => ?_) (fun c1 => ?_)
      · have h := h.1 c1
        obtain ⟨y4, ey4⟩ : ∃ z : Int32, z = x4 + (1 : Int32) := ⟨_, rfl⟩
        have h := h y4 ey4
        refine lv_iinc (v := y4) (lv' := [(4, .int y4), (0, .ref (a 0)), (1, .int x1), (2, .int x2), (3, .int x3)]) hx hb dX10_days_72 hl (k := 4) rfl (by rw [ey4]; rfl) (by decide) rfl (fun ls hl => ?_)
        refine lv_goto (tgt := 42) hx hb dX10_days_75 (by decide) ?_
        exact ih q3 x1 x2 x3 y4 _ _ _ h hP hD hS (lv_sub hl [1, 2, 3, 4, 0] rfl)
      · have h := h.2 c1
        refine lv_aload_n hx hb dX10_days_63 rfl (lv_at hl 0 rfl) ?_
        refine lv_iload hx hb dX10_days_64 (lv_at hl 4 rfl) ?_
        refine qc_vv (As := [.int x4]) (rest := []) ⟨hx, hb, hml, hown, hts⟩ (mX10_delivers l G _ _ a q3 _ x4) (cwV 1 hts gX10_days_X10_delivers rfl rfl rfl (by decide +kernel) ⟨Nat.le_of_ble_eq_true rfl, Nat.le_of_ble_eq_true rfl⟩) hP hD hS hA hKn 0 10 rfl rfl rfl h rfl hl.1 rfl (Nat.le_of_ble_eq_true rfl) dX10_days_66 ⟨Nat.zero_le _, Nat.zero_le _⟩ (fun q6 H locs h hP hD hS => ?_)
        have hP : va_P G.1 vwCl (wM G a q6 ++ R) H := hP
        have hD : va_D A (wM G a q6 ++ R) := hD
        refine lv_goto (tgt := 42) hx hb dX10_days_69 (by decide) ?_
        exact ih q6 x1 x2 x3 x4 _ _ _ h hP hD hS (lv_sub hl [0, 1, 2, 3, 4] rfl)
set_option maxHeartbeats 4000000 in
set_option maxRecDepth 100000 in
theorem kX10_days_b18 {p : Program} {l : Launch} {e : Env} {s : State} {m : MethodId} {args : Array Value} {below : List Frame} {meth : Method} {c : Code} {G : qG} {A : Nat → Prop} {Qf : State → Prop} {R : va_W} {a : Nat → Nat} {k : Int32 → qS → Prop} (hx : p.tables.exec = Jvm.exec) (hb : c.code = cX10_days) (hml : c.maxLocals = 5) (hown : s.vm.findClass RX10 = some m.cls) (hts : ∀ w ∈ wsX10_days, w.before args s = true) (hA : ∀ q : Nat, s.heap.size ≤ q → A q) (hKn : qKn G A s s.heap) (hret : ∀ (r : Int32) (q : qS) (H : Heap) (locs : List Loc) (ls : Array Slot) (pc : Nat), k r q → va_P G.1 vwCl (wM G a q ++ R) H → va_D A (wM G a q ++ R) → va_S A s.heap H locs → decode cX10_days pc = .ok (.ireturn, 1) → W p l e rmX10_days s m args below meth c H locs 0 0 Qf (F0 m pc ls [.int r])) {kb10 : qS → Int32 → Int32 → Int32 → Prop} (hkb10 : ∀ (q : qS) (x1 : Int32) (x2 : Int32) (x3 : Int32) (H : Heap) (locs : List Loc) (ls : Array Slot), kb10 q x1 x2 x3 → va_P G.1 vwCl (wM G a q ++ R) H → va_D A (wM G a q ++ R) → va_S A s.heap H locs → lv_has ls 5 [(0, .ref (a 0)), (1, .int x1), (2, .int x2), (3, .int x3)] → W p l e rmX10_days s m args below meth c H locs 0 0 Qf (F0 m 10 ls [])) : ∀ (n : Nat) (q : qS) (x1 : Int32) (x2 : Int32) (x3 : Int32) (x4 : Int32) (H : Heap) (locs : List Loc) (ls : Array Slot), wX10_days_b18 k kb10 n q x1 x2 x3 x4 → va_P G.1 vwCl (wM G a q ++ R) H → va_D A (wM G a q ++ R) → va_S A s.heap H locs → lv_has ls 5 [(0, .ref (a 0)), (1, .int x1), (2, .int x2), (3, .int x3), (4, .int x4)] → W p l e rmX10_days s m args below meth c H locs 0 0 Qf (F0 m 18 ls []) := by
  intro n
  induction n with
  | zero => intros; rename_i h _ _ _ _; exact h.elim
  | succ n ih =>
    intro q x1 x2 x3 x4 H locs ls h hP hD hS hl
    unfold wX10_days_b18 at h
    refine lv_iload hx hb dX10_days_18 (lv_at hl 4 rfl) ?_
    refine lv_aload_n hx hb dX10_days_20 rfl (lv_at hl 0 rfl) ?_
    refine va_get (D := G.1) (ci := 10) (v := .ref (a 1)) (C := RX10) (T := TX10) (N := 15) hx hb hts iX10_days_X10 hown hKn.k hP 0 rfl rfl 1 (by decide) (hts _ lX10_days_f7) (fun _ h9 => h9) rfl dX10_days_21 ?_
    refine lv_iconst (v := (2 : Int32)) hx hb dX10_days_24 (by decide) ?_
    refine va_iald hx hb hKn.k hP 1 0 rfl rfl (by unfold vp_in; decide) dX10_days_25 ?_
    refine lv_icmp_ge (tgt := 39) hx hb dX10_days_26 (by decide) (fun c1 => ?_) (fun c1 => ?_)
    · have h := h.1 c1
      refine lv_iconst (v := (0 : Int32)) hx hb dX10_days_39 (by decide) ?_
      refine lv_istore (lv' := [(4, .int (0 : Int32)), (0, .ref (a 0)), (1, .int x1), (2, .int x2), (3, .int x3)]) hx hb dX10_days_40 hl (by decide) rfl (fun ls hl => ?_)
      obtain ⟨n7, h⟩ := h
      exact kX10_days_b42 hx hb hml hown hts hA hKn hret hkb10 n7 q x1 x2 x3 (0 : Int32) _ _ _ h hP hD hS (lv_sub hl [1, 2, 3, 4, 0] rfl)
    · have h := h.2 c1
      refine lv_aload_n hx hb dX10_days_29 rfl (lv_at hl 0 rfl) ?_
      refine qc_vv (As := []) (rest := []) ⟨hx, hb, hml, hown, hts⟩ (mX10_hour l G _ _ a q _ ) (cwV 0 hts gX10_days_X10_hour rfl rfl rfl (by decide +kernel) ⟨Nat.le_of_ble_eq_true rfl, Nat.le_of_ble_eq_true rfl⟩) hP hD hS hA hKn 0 10 rfl rfl rfl h rfl hl.1 rfl (Nat.le_of_ble_eq_true rfl) dX10_days_30 ⟨Nat.zero_le _, Nat.zero_le _⟩ (fun q9 H locs h hP hD hS => ?_)
      have hP : va_P G.1 vwCl (wM G a q9 ++ R) H := hP
      have hD : va_D A (wM G a q9 ++ R) := hD
      obtain ⟨y10, ey10⟩ : ∃ z : Int32, z = x4 + (1 : Int32) := ⟨_, rfl⟩
      have h := h y10 ey10
      refine lv_iinc (v := y10) (lv' := [(4, .int y10), (0, .ref (a 0)), (1, .int x1), (2, .int x2), (3, .int x3)]) hx hb dX10_days_33 hl (k := 4) rfl (by rw [ey10]; rfl) (by decide) rfl (fun ls hl => ?_)
      refine lv_goto (tgt := 18) hx hb dX10_days_36 (by decide) ?_
      exact ih q9 x1 x2 x3 y10 _ _ _ h hP hD hS (lv_sub hl [1, 2, 3, 4, 0] rfl)
set_option maxHeartbeats 4000000 in
set_option maxRecDepth 100000 in
theorem kX10_days_b10 {p : Program} {l : Launch} {e : Env} {s : State} {m : MethodId} {args : Array Value} {below : List Frame} {meth : Method} {c : Code} {G : qG} {A : Nat → Prop} {Qf : State → Prop} {R : va_W} {a : Nat → Nat} {k : Int32 → qS → Prop} (hx : p.tables.exec = Jvm.exec) (hb : c.code = cX10_days) (hml : c.maxLocals = 5) (hown : s.vm.findClass RX10 = some m.cls) (hts : ∀ w ∈ wsX10_days, w.before args s = true) (hA : ∀ q : Nat, s.heap.size ≤ q → A q) (hKn : qKn G A s s.heap) (hret : ∀ (r : Int32) (q : qS) (H : Heap) (locs : List Loc) (ls : Array Slot) (pc : Nat), k r q → va_P G.1 vwCl (wM G a q ++ R) H → va_D A (wM G a q ++ R) → va_S A s.heap H locs → decode cX10_days pc = .ok (.ireturn, 1) → W p l e rmX10_days s m args below meth c H locs 0 0 Qf (F0 m pc ls [.int r])) : ∀ (n : Nat) (q : qS) (x1 : Int32) (x2 : Int32) (x3 : Int32) (H : Heap) (locs : List Loc) (ls : Array Slot), wX10_days_b10 k n q x1 x2 x3 → va_P G.1 vwCl (wM G a q ++ R) H → va_D A (wM G a q ++ R) → va_S A s.heap H locs → lv_has ls 5 [(0, .ref (a 0)), (1, .int x1), (2, .int x2), (3, .int x3)] → W p l e rmX10_days s m args below meth c H locs 0 0 Qf (F0 m 10 ls []) := by
  intro n
  induction n with
  | zero => intros; rename_i h _ _ _ _; exact h.elim
  | succ n ih =>
    intro q x1 x2 x3 H locs ls h hP hD hS hl
    unfold wX10_days_b10 at h
    refine lv_iload_n hx hb dX10_days_10 rfl (lv_at hl 3 rfl) ?_
    refine lv_iload_n hx hb dX10_days_11 rfl (lv_at hl 1 rfl) ?_
    refine lv_icmp_ge (tgt := 84) hx hb dX10_days_12 (by decide) (fun c1 => ?_) (fun c1 => ?_)
    · have h := h.1 c1
      refine lv_aload_n hx hb dX10_days_84 rfl (lv_at hl 0 rfl) ?_
      refine va_get (D := G.1) (ci := 10) (v := .ref (a 1)) (C := RX10) (T := TX10) (N := 15) hx hb hts iX10_days_X10 hown hKn.k hP 0 rfl rfl 1 (by decide) (hts _ lX10_days_f7) (fun _ h9 => h9) rfl dX10_days_85 ?_
      refine lv_bipush (v := (11 : Int32)) hx hb dX10_days_88 (by decide) ?_
      refine va_iald hx hb hKn.k hP 1 0 rfl rfl (by unfold vp_in; decide) dX10_days_90 ?_
      refine lv_iload_n hx hb dX10_days_91 rfl (lv_at hl 2 rfl) ?_
      refine lv_isub hx hb dX10_days_92 ?_
      exact hret _ _ _ _ _ _ h hP hD hS dX10_days_93
    · have h := h.2 c1
      refine lv_iconst (v := (0 : Int32)) hx hb dX10_days_15 (by decide) ?_
      refine lv_istore (lv' := [(4, .int (0 : Int32)), (0, .ref (a 0)), (1, .int x1), (2, .int x2), (3, .int x3)]) hx hb dX10_days_16 hl (by decide) rfl (fun ls hl => ?_)
      obtain ⟨n11, h⟩ := h
      exact kX10_days_b18 hx hb hml hown hts hA hKn hret ih n11 q x1 x2 x3 (0 : Int32) _ _ _ h hP hD hS (lv_sub hl [1, 2, 3, 4, 0] rfl)
set_option maxHeartbeats 4000000 in
set_option maxRecDepth 100000 in
theorem mX10_days (l : Launch) (G : qG) (k : Int32 → qS → Prop) (R : va_W) (a : Nat → Nat) (q : qS) (sz : Nat) (p0 : Int32) : Met l yX10_days wsX10_days rmX10_days (qPc G [.ref (a 0), .int p0] (wM G a q ++ R) sz (wX10_days k q p0)) (qQi G (wM G a q ++ R) sz (fun (r : Int32) (u : qS) => k r u) (fun (u : qS) => wM G a u ++ R)) 0 0 (va_A (wM G a q ++ R) sz) := by
  refine Met.ofW (cc := cX10_days) (maxL := 5) (ret := (some .int)) (by decide) rfl ?_
  intro p e s m args below meth c s₁ B hml hv
  obtain ⟨rfl, hsz, hP, hD0, hKn0, h⟩ := hv
  have hx := B.exec
  have hb := B.bytes
  have hr := B.returns
  have hts := atoms_spec (ws := wsX10_days) B.pre
  have hown : s.vm.findClass RX10 = some m.cls := findClass_of_methodNamed B.named
  have hlocks := B.notSynchronized
  subst hsz
  have hD := hD0.self (sz := s.heap.size)
  generalize hAe : va_A (wM G a q ++ R) s.heap.size = A at hD hKn0 ⊢
  have hA : ∀ q : Nat, s.heap.size ≤ q → A q := fun q h => by rw [← hAe]; exact Or.inr h
  have hKn : qKn G A s s.heap := hKn0
  have hS : va_S A s.heap s.heap [] := va_S.rf
  have hret : ∀ (r : Int32) (q' : qS) (H : Heap) (locs : List Loc) (ls : Array Slot) (pc : Nat), k r q' → va_P G.1 vwCl (wM G a q' ++ R) H → va_D A (wM G a q' ++ R) → va_S A s.heap H locs → decode cX10_days pc = .ok (.ireturn, 1) → W p l e rmX10_days s m #[.ref (a 0), .int p0] below meth c H locs 0 0 (MQ below (qQi G (wM G a q ++ R) s.heap.size (fun (r : Int32) (u : qS) => k r u) (fun (u : qS) => wM G a u ++ R)) #[.ref (a 0), .int p0] s 0 0 A) (F0 m pc ls [.int r]) := fun r q' H locs ls pc hk hP hD hS hd => W.iret hx hb hr (fun t ht hW => q_ri (u := (q' : qS)) hAe hk hP hD hS ht) hS.2.2 hd
  have hl := lv_entry ([.ref (a 0), .int p0]) (n := 5) (Nat.le_of_ble_eq_true rfl)
  rw [lg_entry_eq]
  generalize (lg_sl ([.ref (a 0), .int p0]) ++ List.replicate (5 - (lg_sl ([.ref (a 0), .int p0])).length) Slot.unset).toArray = ls at hl ⊢
  have hl : lv_has ls 5 [(0, .ref (a 0)), (1, .int p0)] := hl
  unfold wX10_days at h
  show W p l e rmX10_days s m #[.ref (a 0), .int p0] below meth c s.heap [] 0 0 _ _
  refine lv_aload_n hx hb dX10_days_0 rfl (lv_at hl 0 rfl) ?_
  refine va_get (D := G.1) (ci := 10) (v := .ref (a 1)) (C := RX10) (T := TX10) (N := 15) hx hb hts iX10_days_X10 hown hKn.k hP 0 rfl rfl 1 (by decide) (hts _ lX10_days_f7) (fun _ h9 => h9) rfl dX10_days_1 ?_
  refine lv_bipush (v := (11 : Int32)) hx hb dX10_days_4 (by decide) ?_
  refine va_iald hx hb hKn.k hP 1 0 rfl rfl (by unfold vp_in; decide) dX10_days_6 ?_
  refine lv_topi (fun y12 ey12 => ?_)
  have h := h y12 ey12
  refine lv_istore_n (lv' := [(2, .int y12), (0, .ref (a 0)), (1, .int p0)]) hx hb dX10_days_7 rfl hl (by decide) rfl (fun ls hl => ?_)
  refine lv_iconst (v := (0 : Int32)) hx hb dX10_days_8 (by decide) ?_
  refine lv_istore_n (lv' := [(3, .int (0 : Int32)), (2, .int y12), (0, .ref (a 0)), (1, .int p0)]) hx hb dX10_days_9 rfl hl (by decide) rfl (fun ls hl => ?_)
  obtain ⟨n13, h⟩ := h
  exact kX10_days_b10 hx hb hml hown hts hA hKn hret n13 q p0 y12 (0 : Int32) _ _ _ h hP hD hS (lv_sub hl [2, 3, 1, 0] rfl)
abbrev rmX10_isSetting : Room := { frames := 1, cells := 0, slots := 0, locals := 22 }
set_option maxHeartbeats 4000000 in
set_option maxRecDepth 100000 in
theorem mX10_isSetting (l : Launch) (G : qG) (k : Int32 → Prop) (R : va_W)  (sz : Nat) (p0 : Int32) (p1 : Int32) : Met l yX10_isSetting wsX10_isSetting rmX10_isSetting (qPc G [.int p0, .int p1] (R) sz (wX10_isSetting k  p0 p1)) (qQi G (R) sz (fun (r : Int32) (u : Unit) => k r ) (fun (u : Unit) => R)) 0 0 (va_A (R) sz) := by
  refine Met.ofW (cc := cX10_isSetting) (maxL := 2) (ret := (some .boolean)) (by decide) rfl ?_
  intro p e s m args below meth c s₁ B hml hv
  obtain ⟨rfl, hsz, hP, hD0, hKn0, h⟩ := hv
  have hx := B.exec
  have hb := B.bytes
  have hr := B.returns
  have hts := atoms_spec (ws := wsX10_isSetting) B.pre
  have hown : s.vm.findClass RX10 = some m.cls := findClass_of_methodNamed B.named
  have hlocks := B.notSynchronized
  subst hsz
  have hD := hD0.self (sz := s.heap.size)
  generalize hAe : va_A (R) s.heap.size = A at hD hKn0 ⊢
  have hA : ∀ q : Nat, s.heap.size ≤ q → A q := fun q h => by rw [← hAe]; exact Or.inr h
  have hKn : qKn G A s s.heap := hKn0
  have hS : va_S A s.heap s.heap [] := va_S.rf
  have hret : ∀ (r : Int32)  (H : Heap) (locs : List Loc) (ls : Array Slot) (pc : Nat), k r  → narrow .boolean (.int r) = .int r → va_P G.1 vwCl (R) H → va_D A (R) → va_S A s.heap H locs → decode cX10_isSetting pc = .ok (.ireturn, 1) → W p l e rmX10_isSetting s m #[.int p0, .int p1] below meth c H locs 0 0 (MQ below (qQi G (R) s.heap.size (fun (r : Int32) (u : Unit) => k r ) (fun (u : Unit) => R)) #[.int p0, .int p1] s 0 0 A) (F0 m pc ls [.int r]) := fun r  H locs ls pc hk hn hP hD hS hd => W.zret hx hb hr hn (fun t ht hW => q_ri (u := (() : Unit)) hAe hk hP hD hS ht) hS.2.2 hd
  have hl := lv_entry ([.int p0, .int p1]) (n := 2) (Nat.le_of_ble_eq_true rfl)
  rw [lg_entry_eq]
  generalize (lg_sl ([.int p0, .int p1]) ++ List.replicate (2 - (lg_sl ([.int p0, .int p1])).length) Slot.unset).toArray = ls at hl ⊢
  have hl : lv_has ls 2 [(0, .int p0), (1, .int p1)] := hl
  unfold wX10_isSetting at h
  show W p l e rmX10_isSetting s m #[.int p0, .int p1] below meth c s.heap [] 0 0 _ _
  refine lv_iload_n hx hb dX10_isSetting_0 rfl (lv_at hl 0 rfl) ?_
  by_cases c0 : p0 = (0 : Int32)
  · refine lv_tableIn (tgt := 40) hx hb dX10_isSetting_1 (by rw [c0]; decide) (by rw [c0]; decide) (by rw [c0]; rfl) (by decide) ?_
    have h := (h.1) c0
    refine lv_iload_n hx hb dX10_isSetting_40 rfl (lv_at hl 1 rfl) ?_
    refine lv_iconst (v := (0 : Int32)) hx hb dX10_isSetting_41 (by decide) ?_
    refine lv_bipush (v := (20 : Int32)) hx hb dX10_isSetting_42 (by decide) ?_
    refine qc_si (As := [.int p1, .int (0 : Int32), .int (20 : Int32)]) (rest := []) ⟨hx, hb, hml, hown, hts⟩ (mX10_in l G _ _ _ p1 (0 : Int32) (20 : Int32)) (cwS 3 hts gX10_isSetting_X10_in rfl rfl rfl (by decide +kernel) ⟨Nat.le_of_ble_eq_true rfl, Nat.le_of_ble_eq_true rfl⟩) hP hD hS hA hKn h rfl hl.1 rfl (Nat.le_of_ble_eq_true rfl) dX10_isSetting_44 ⟨Nat.zero_le _, Nat.zero_le _⟩ (fun r1 _ H locs h hP hD hS => ?_)
    have hP : va_P G.1 vwCl (R) H := hP
    have hD : va_D A (R) := hD
    obtain ⟨hn1, h⟩ := h
    exact hret _ _ _ _ _ h hn1 hP hD hS dX10_isSetting_47
  · skip
    by_cases c1 : p0 = (1 : Int32)
    · refine lv_tableIn (tgt := 48) hx hb dX10_isSetting_1 (by rw [c1]; decide) (by rw [c1]; decide) (by rw [c1]; rfl) (by decide) ?_
      have h := (h.2.1) c1
      refine lv_iload_n hx hb dX10_isSetting_48 rfl (lv_at hl 1 rfl) ?_
      refine lv_iconst (v := (1 : Int32)) hx hb dX10_isSetting_49 (by decide) ?_
      refine lv_bipush (v := (40 : Int32)) hx hb dX10_isSetting_50 (by decide) ?_
      refine qc_si (As := [.int p1, .int (1 : Int32), .int (40 : Int32)]) (rest := []) ⟨hx, hb, hml, hown, hts⟩ (mX10_in l G _ _ _ p1 (1 : Int32) (40 : Int32)) (cwS 3 hts gX10_isSetting_X10_in rfl rfl rfl (by decide +kernel) ⟨Nat.le_of_ble_eq_true rfl, Nat.le_of_ble_eq_true rfl⟩) hP hD hS hA hKn h rfl hl.1 rfl (Nat.le_of_ble_eq_true rfl) dX10_isSetting_52 ⟨Nat.zero_le _, Nat.zero_le _⟩ (fun r2 _ H locs h hP hD hS => ?_)
      have hP : va_P G.1 vwCl (R) H := hP
      have hD : va_D A (R) := hD
      obtain ⟨hn1, h⟩ := h
      exact hret _ _ _ _ _ h hn1 hP hD hS dX10_isSetting_55
    · skip
      by_cases c2 : p0 = (2 : Int32)
      · refine lv_tableIn (tgt := 56) hx hb dX10_isSetting_1 (by rw [c2]; decide) (by rw [c2]; decide) (by rw [c2]; rfl) (by decide) ?_
        have h := (h.2.2.1) c2
        refine lv_iload_n hx hb dX10_isSetting_56 rfl (lv_at hl 1 rfl) ?_
        refine lv_iconst (v := (1 : Int32)) hx hb dX10_isSetting_57 (by decide) ?_
        refine lv_bipush (v := (24 : Int32)) hx hb dX10_isSetting_58 (by decide) ?_
        refine qc_si (As := [.int p1, .int (1 : Int32), .int (24 : Int32)]) (rest := []) ⟨hx, hb, hml, hown, hts⟩ (mX10_in l G _ _ _ p1 (1 : Int32) (24 : Int32)) (cwS 3 hts gX10_isSetting_X10_in rfl rfl rfl (by decide +kernel) ⟨Nat.le_of_ble_eq_true rfl, Nat.le_of_ble_eq_true rfl⟩) hP hD hS hA hKn h rfl hl.1 rfl (Nat.le_of_ble_eq_true rfl) dX10_isSetting_60 ⟨Nat.zero_le _, Nat.zero_le _⟩ (fun r3 _ H locs h hP hD hS => ?_)
        have hP : va_P G.1 vwCl (R) H := hP
        have hD : va_D A (R) := hD
        obtain ⟨hn1, h⟩ := h
        exact hret _ _ _ _ _ h hn1 hP hD hS dX10_isSetting_63
      · skip
        by_cases c3 : p0 = (3 : Int32)
        · refine lv_tableIn (tgt := 64) hx hb dX10_isSetting_1 (by rw [c3]; decide) (by rw [c3]; decide) (by rw [c3]; rfl) (by decide) ?_
          have h := (h.2.2.2.1) c3
          refine lv_iload_n hx hb dX10_isSetting_64 rfl (lv_at hl 1 rfl) ?_
          refine lv_iconst (v := (1 : Int32)) hx hb dX10_isSetting_65 (by decide) ?_
          refine lv_bipush (v := (9 : Int32)) hx hb dX10_isSetting_66 (by decide) ?_
          refine qc_si (As := [.int p1, .int (1 : Int32), .int (9 : Int32)]) (rest := []) ⟨hx, hb, hml, hown, hts⟩ (mX10_in l G _ _ _ p1 (1 : Int32) (9 : Int32)) (cwS 3 hts gX10_isSetting_X10_in rfl rfl rfl (by decide +kernel) ⟨Nat.le_of_ble_eq_true rfl, Nat.le_of_ble_eq_true rfl⟩) hP hD hS hA hKn h rfl hl.1 rfl (Nat.le_of_ble_eq_true rfl) dX10_isSetting_68 ⟨Nat.zero_le _, Nat.zero_le _⟩ (fun r4 _ H locs h hP hD hS => ?_)
          have hP : va_P G.1 vwCl (R) H := hP
          have hD : va_D A (R) := hD
          obtain ⟨hn1, h⟩ := h
          exact hret _ _ _ _ _ h hn1 hP hD hS dX10_isSetting_71
        · skip
          by_cases c4 : p0 = (4 : Int32)
          · refine lv_tableIn (tgt := 72) hx hb dX10_isSetting_1 (by rw [c4]; decide) (by rw [c4]; decide) (by rw [c4]; rfl) (by decide) ?_
            have h := (h.2.2.2.2.1) c4
            refine lv_iload_n hx hb dX10_isSetting_72 rfl (lv_at hl 1 rfl) ?_
            refine lv_iconst (v := (1 : Int32)) hx hb dX10_isSetting_73 (by decide) ?_
            refine lv_sipush (v := (200 : Int32)) hx hb dX10_isSetting_74 (by decide) ?_
            refine qc_si (As := [.int p1, .int (1 : Int32), .int (200 : Int32)]) (rest := []) ⟨hx, hb, hml, hown, hts⟩ (mX10_in l G _ _ _ p1 (1 : Int32) (200 : Int32)) (cwS 3 hts gX10_isSetting_X10_in rfl rfl rfl (by decide +kernel) ⟨Nat.le_of_ble_eq_true rfl, Nat.le_of_ble_eq_true rfl⟩) hP hD hS hA hKn h rfl hl.1 rfl (Nat.le_of_ble_eq_true rfl) dX10_isSetting_77 ⟨Nat.zero_le _, Nat.zero_le _⟩ (fun r5 _ H locs h hP hD hS => ?_)
            have hP : va_P G.1 vwCl (R) H := hP
            have hD : va_D A (R) := hD
            obtain ⟨hn1, h⟩ := h
            exact hret _ _ _ _ _ h hn1 hP hD hS dX10_isSetting_80
          · skip
            by_cases c5 : p0 = (5 : Int32)
            · refine lv_tableIn (tgt := 81) hx hb dX10_isSetting_1 (by rw [c5]; decide) (by rw [c5]; decide) (by rw [c5]; rfl) (by decide) ?_
              have h := (h.2.2.2.2.2.1) c5
              refine lv_iload_n hx hb dX10_isSetting_81 rfl (lv_at hl 1 rfl) ?_
              refine lv_iconst (v := (0 : Int32)) hx hb dX10_isSetting_82 (by decide) ?_
              refine lv_bipush (v := (99 : Int32)) hx hb dX10_isSetting_83 (by decide) ?_
              refine qc_si (As := [.int p1, .int (0 : Int32), .int (99 : Int32)]) (rest := []) ⟨hx, hb, hml, hown, hts⟩ (mX10_in l G _ _ _ p1 (0 : Int32) (99 : Int32)) (cwS 3 hts gX10_isSetting_X10_in rfl rfl rfl (by decide +kernel) ⟨Nat.le_of_ble_eq_true rfl, Nat.le_of_ble_eq_true rfl⟩) hP hD hS hA hKn h rfl hl.1 rfl (Nat.le_of_ble_eq_true rfl) dX10_isSetting_85 ⟨Nat.zero_le _, Nat.zero_le _⟩ (fun r6 _ H locs h hP hD hS => ?_)
              have hP : va_P G.1 vwCl (R) H := hP
              have hD : va_D A (R) := hD
              obtain ⟨hn1, h⟩ := h
              exact hret _ _ _ _ _ h hn1 hP hD hS dX10_isSetting_88
            · skip
              refine lv_tableOut (tgt := 89) hx hb dX10_isSetting_1 (by have gc0 : ¬ (p0).toInt = 0 := q_ti _ (0) c0; have gc1 : ¬ (p0).toInt = 1 := q_ti _ (1) c1; have gc2 : ¬ (p0).toInt = 2 := q_ti _ (2) c2; have gc3 : ¬ (p0).toInt = 3 := q_ti _ (3) c3; have gc4 : ¬ (p0).toInt = 4 := q_ti _ (4) c4; have gc5 : ¬ (p0).toInt = 5 := q_ti _ (5) c5; omega) (by decide) ?_
              have h := h.2.2.2.2.2.2 c0 c1 c2 c3 c4 c5
              refine lv_iconst (v := (0 : Int32)) hx hb dX10_isSetting_89 (by decide) ?_
              exact hret _ _ _ _ _ h rfl hP hD hS dX10_isSetting_90
