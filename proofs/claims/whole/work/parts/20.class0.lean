abbrev rmX1_has : Room := { frames := 0, cells := 0, slots := 0, locals := 0 }
theorem lX1_has_f19 : Cond.fieldLink RX1 19 "QuarryBlends$Contracts" "amount" "I" ∈ wsX1_has := by decide +kernel
theorem iX1_has_X1 : ∀ w ∈ wsX10, w ∈ wsX1_has := by decide +kernel
set_option maxHeartbeats 4000000 in
set_option maxRecDepth 100000 in
theorem kX1_has_b23 {p : Program} {l : Launch} {e : Env} {s : State} {m : MethodId} {args : Array Value} {below : List Frame} {meth : Method} {c : Code} {G : qG} {A : Nat → Prop} {Qf : State → Prop} {R : va_W} {a : Nat → Nat} {k : Int32 → qS → Prop} (hx : p.tables.exec = Jvm.exec) (hb : c.code = cX1_has) (hml : c.maxLocals = 2) (hown : s.vm.findClass RX1 = some m.cls) (hts : ∀ w ∈ wsX1_has, w.before args s = true) (hA : ∀ q : Nat, s.heap.size ≤ q → A q) (hKn : qKn G A s s.heap) (hret : ∀ (r : Int32) (q : qS) (H : Heap) (locs : List Loc) (ls : Array Slot) (pc : Nat), k r q → narrow .boolean (.int r) = .int r → va_P G.1 vwCl (wQ G a q ++ R) H → va_D A (wQ G a q ++ R) → va_S A s.heap H locs → decode cX1_has pc = .ok (.ireturn, 1) → W p l e rmX1_has s m args below meth c H locs 0 0 Qf (F0 m pc ls [.int r])) : ∀ (q : qS) (z0 : Int32) (H : Heap) (locs : List Loc) (ls : Array Slot), wX1_has_b23 k q z0 → va_P G.1 vwCl (wQ G a q ++ R) H → va_D A (wQ G a q ++ R) → va_S A s.heap H locs → lv_has ls 2 [] → W p l e rmX1_has s m args below meth c H locs 0 0 Qf (F0 m 23 ls [.int z0]) := by
  intro q z0 H locs ls h hP hD hS hl
  unfold wX1_has_b23 at h
  obtain ⟨hn1, h⟩ := h
  exact hret _ _ _ _ _ _ h hn1 hP hD hS dX1_has_23
set_option maxHeartbeats 4000000 in
set_option maxRecDepth 100000 in
theorem kX1_has_b22 {p : Program} {l : Launch} {e : Env} {s : State} {m : MethodId} {args : Array Value} {below : List Frame} {meth : Method} {c : Code} {G : qG} {A : Nat → Prop} {Qf : State → Prop} {R : va_W} {a : Nat → Nat} {k : Int32 → qS → Prop} (hx : p.tables.exec = Jvm.exec) (hb : c.code = cX1_has) (hml : c.maxLocals = 2) (hown : s.vm.findClass RX1 = some m.cls) (hts : ∀ w ∈ wsX1_has, w.before args s = true) (hA : ∀ q : Nat, s.heap.size ≤ q → A q) (hKn : qKn G A s s.heap) (hret : ∀ (r : Int32) (q : qS) (H : Heap) (locs : List Loc) (ls : Array Slot) (pc : Nat), k r q → narrow .boolean (.int r) = .int r → va_P G.1 vwCl (wQ G a q ++ R) H → va_D A (wQ G a q ++ R) → va_S A s.heap H locs → decode cX1_has pc = .ok (.ireturn, 1) → W p l e rmX1_has s m args below meth c H locs 0 0 Qf (F0 m pc ls [.int r])) : ∀ (q : qS) (H : Heap) (locs : List Loc) (ls : Array Slot), wX1_has_b22 k q → va_P G.1 vwCl (wQ G a q ++ R) H → va_D A (wQ G a q ++ R) → va_S A s.heap H locs → lv_has ls 2 [] → W p l e rmX1_has s m args below meth c H locs 0 0 Qf (F0 m 22 ls []) := by
  intro q H locs ls h hP hD hS hl
  unfold wX1_has_b22 at h
  refine lv_iconst (v := (0 : Int32)) hx hb dX1_has_22 (by decide) ?_
  exact kX1_has_b23 hx hb hml hown hts hA hKn hret q (0 : Int32) _ _ _ h hP hD hS (lv_sub hl [] rfl)
set_option maxHeartbeats 4000000 in
set_option maxRecDepth 100000 in
theorem mX1_has (l : Launch) (G : qG) (k : Int32 → qS → Prop) (R : va_W) (a : Nat → Nat) (q : qS) (sz : Nat) (p0 : Int32) : Met l yX1_has wsX1_has rmX1_has (qPc G [.ref (a 16), .int p0] (wQ G a q ++ R) sz (wX1_has k q p0)) (qQi G (wQ G a q ++ R) sz (fun (r : Int32) (u : qS) => k r u) (fun (u : qS) => wQ G a u ++ R)) 0 0 (va_A (wQ G a q ++ R) sz) := by
  refine Met.ofW (cc := cX1_has) (maxL := 2) (ret := (some .boolean)) (by decide) rfl ?_
  intro p e s m args below meth c s₁ B hml hv
  obtain ⟨rfl, hsz, hP, hD0, hKn0, h⟩ := hv
  have hx := B.exec
  have hb := B.bytes
  have hr := B.returns
  have hts := atoms_spec (ws := wsX1_has) B.pre
  have hown : s.vm.findClass RX1 = some m.cls := findClass_of_methodNamed B.named
  have hlocks := B.notSynchronized
  subst hsz
  have hD := hD0.self (sz := s.heap.size)
  generalize hAe : va_A (wQ G a q ++ R) s.heap.size = A at hD hKn0 ⊢
  have hA : ∀ q : Nat, s.heap.size ≤ q → A q := fun q h => by rw [← hAe]; exact Or.inr h
  have hKn : qKn G A s s.heap := hKn0
  have hS : va_S A s.heap s.heap [] := va_S.rf
  have hret : ∀ (r : Int32) (q' : qS) (H : Heap) (locs : List Loc) (ls : Array Slot) (pc : Nat), k r q' → narrow .boolean (.int r) = .int r → va_P G.1 vwCl (wQ G a q' ++ R) H → va_D A (wQ G a q' ++ R) → va_S A s.heap H locs → decode cX1_has pc = .ok (.ireturn, 1) → W p l e rmX1_has s m #[.ref (a 16), .int p0] below meth c H locs 0 0 (MQ below (qQi G (wQ G a q ++ R) s.heap.size (fun (r : Int32) (u : qS) => k r u) (fun (u : qS) => wQ G a u ++ R)) #[.ref (a 16), .int p0] s 0 0 A) (F0 m pc ls [.int r]) := fun r q' H locs ls pc hk hn hP hD hS hd => W.zret hx hb hr hn (fun t ht hW => q_ri (u := (q' : qS)) hAe hk hP hD hS ht) hS.2.2 hd
  have hl := lv_entry ([.ref (a 16), .int p0]) (n := 2) (Nat.le_of_ble_eq_true rfl)
  rw [lg_entry_eq]
  generalize (lg_sl ([.ref (a 16), .int p0]) ++ List.replicate (2 - (lg_sl ([.ref (a 16), .int p0])).length) Slot.unset).toArray = ls at hl ⊢
  have hl : lv_has ls 2 [(0, .ref (a 16)), (1, .int p0)] := hl
  unfold wX1_has at h
  show W p l e rmX1_has s m #[.ref (a 16), .int p0] below meth c s.heap [] 0 0 _ _
  refine lv_iload_n hx hb dX1_has_0 rfl (lv_at hl 1 rfl) ?_
  refine lv_if_lt (tgt := 22) hx hb dX1_has_1 (by decide) (fun c1 => ?_) (fun c1 => ?_)
  · have h := h.1 c1
    exact kX1_has_b22 hx hb hml hown hts hA hKn hret q _ _ _ h hP hD hS (lv_sub hl [] rfl)
  · have h := h.2 c1
    refine lv_iload_n hx hb dX1_has_4 rfl (lv_at hl 1 rfl) ?_
    refine lv_aload_n hx hb dX1_has_5 rfl (lv_at hl 0 rfl) ?_
    refine va_get (D := G.1) (ci := 1) (v := .int (q 0 5)) (C := RX1) (T := TX1) (N := 2) hx hb hts iX1_has_X1 hown hKn.k hP 15 rfl rfl 1 (by decide) (hts _ lX1_has_f19) (fun _ h9 => h9) rfl dX1_has_6 ?_
    refine lv_icmp_ge (tgt := 22) hx hb dX1_has_9 (by decide) (fun c1 => ?_) (fun c1 => ?_)
    · have h := h.1 c1
      exact kX1_has_b22 hx hb hml hown hts hA hKn hret q _ _ _ h hP hD hS (lv_sub hl [] rfl)
    · have h := h.2 c1
      refine lv_iload_n hx hb dX1_has_12 rfl (lv_at hl 1 rfl) ?_
      refine lv_bipush (v := (12 : Int32)) hx hb dX1_has_13 (by decide) ?_
      refine lv_icmp_ge (tgt := 22) hx hb dX1_has_15 (by decide) (fun c1 => ?_) (fun c1 => ?_)
      · have h := h.1 c1
        exact kX1_has_b22 hx hb hml hown hts hA hKn hret q _ _ _ h hP hD hS (lv_sub hl [] rfl)
      · have h := h.2 c1
        refine lv_iconst (v := (1 : Int32)) hx hb dX1_has_18 (by decide) ?_
        refine lv_goto (tgt := 23) hx hb dX1_has_19 (by decide) ?_
        exact kX1_has_b23 hx hb hml hown hts hA hKn hret q (1 : Int32) _ _ _ h hP hD hS (lv_sub hl [] rfl)
abbrev rmX9_within : Room := { frames := 0, cells := 0, slots := 0, locals := 0 }
set_option maxHeartbeats 4000000 in
set_option maxRecDepth 100000 in
theorem kX9_within_b15 {p : Program} {l : Launch} {e : Env} {s : State} {m : MethodId} {args : Array Value} {below : List Frame} {meth : Method} {c : Code} {G : qG} {A : Nat → Prop} {Qf : State → Prop} {R : va_W}  {k : Int32 → Prop} (hx : p.tables.exec = Jvm.exec) (hb : c.code = cX9_within) (hml : c.maxLocals = 3) (hown : s.vm.findClass RX9 = some m.cls) (hts : ∀ w ∈ wsX9_within, w.before args s = true) (hA : ∀ q : Nat, s.heap.size ≤ q → A q) (hKn : qKn G A s s.heap) (hret : ∀ (r : Int32)  (H : Heap) (locs : List Loc) (ls : Array Slot) (pc : Nat), k r  → narrow .boolean (.int r) = .int r → va_P G.1 vwCl (R) H → va_D A (R) → va_S A s.heap H locs → decode cX9_within pc = .ok (.ireturn, 1) → W p l e rmX9_within s m args below meth c H locs 0 0 Qf (F0 m pc ls [.int r])) : ∀  (z0 : Int32) (H : Heap) (locs : List Loc) (ls : Array Slot), wX9_within_b15 k z0 → va_P G.1 vwCl (R) H → va_D A (R) → va_S A s.heap H locs → lv_has ls 3 [] → W p l e rmX9_within s m args below meth c H locs 0 0 Qf (F0 m 15 ls [.int z0]) := by
  intro z0 H locs ls h hP hD hS hl
  unfold wX9_within_b15 at h
  obtain ⟨hn1, h⟩ := h
  exact hret _ _ _ _ _ h hn1 hP hD hS dX9_within_15
set_option maxHeartbeats 4000000 in
set_option maxRecDepth 100000 in
theorem kX9_within_b14 {p : Program} {l : Launch} {e : Env} {s : State} {m : MethodId} {args : Array Value} {below : List Frame} {meth : Method} {c : Code} {G : qG} {A : Nat → Prop} {Qf : State → Prop} {R : va_W}  {k : Int32 → Prop} (hx : p.tables.exec = Jvm.exec) (hb : c.code = cX9_within) (hml : c.maxLocals = 3) (hown : s.vm.findClass RX9 = some m.cls) (hts : ∀ w ∈ wsX9_within, w.before args s = true) (hA : ∀ q : Nat, s.heap.size ≤ q → A q) (hKn : qKn G A s s.heap) (hret : ∀ (r : Int32)  (H : Heap) (locs : List Loc) (ls : Array Slot) (pc : Nat), k r  → narrow .boolean (.int r) = .int r → va_P G.1 vwCl (R) H → va_D A (R) → va_S A s.heap H locs → decode cX9_within pc = .ok (.ireturn, 1) → W p l e rmX9_within s m args below meth c H locs 0 0 Qf (F0 m pc ls [.int r])) : ∀  (H : Heap) (locs : List Loc) (ls : Array Slot), wX9_within_b14 k  → va_P G.1 vwCl (R) H → va_D A (R) → va_S A s.heap H locs → lv_has ls 3 [] → W p l e rmX9_within s m args below meth c H locs 0 0 Qf (F0 m 14 ls []) := by
  intro  H locs ls h hP hD hS hl
  unfold wX9_within_b14 at h
  refine lv_iconst (v := (0 : Int32)) hx hb dX9_within_14 (by decide) ?_
  exact kX9_within_b15 hx hb hml hown hts hA hKn hret (0 : Int32) _ _ _ h hP hD hS (lv_sub hl [] rfl)
set_option maxHeartbeats 4000000 in
set_option maxRecDepth 100000 in
theorem mX9_within (l : Launch) (G : qG) (k : Int32 → Prop) (R : va_W)  (sz : Nat) (p0 : Int32) (p1 : Int32) (p2 : Int32) : Met l yX9_within wsX9_within rmX9_within (qPc G [.int p0, .int p1, .int p2] (R) sz (wX9_within k  p0 p1 p2)) (qQi G (R) sz (fun (r : Int32) (u : Unit) => k r ) (fun (u : Unit) => R)) 0 0 (va_A (R) sz) := by
  refine Met.ofW (cc := cX9_within) (maxL := 3) (ret := (some .boolean)) (by decide) rfl ?_
  intro p e s m args below meth c s₁ B hml hv
  obtain ⟨rfl, hsz, hP, hD0, hKn0, h⟩ := hv
  have hx := B.exec
  have hb := B.bytes
  have hr := B.returns
  have hts := atoms_spec (ws := wsX9_within) B.pre
  have hown : s.vm.findClass RX9 = some m.cls := findClass_of_methodNamed B.named
  have hlocks := B.notSynchronized
  subst hsz
  have hD := hD0.self (sz := s.heap.size)
  generalize hAe : va_A (R) s.heap.size = A at hD hKn0 ⊢
  have hA : ∀ q : Nat, s.heap.size ≤ q → A q := fun q h => by rw [← hAe]; exact Or.inr h
  have hKn : qKn G A s s.heap := hKn0
  have hS : va_S A s.heap s.heap [] := va_S.rf
  have hret : ∀ (r : Int32)  (H : Heap) (locs : List Loc) (ls : Array Slot) (pc : Nat), k r  → narrow .boolean (.int r) = .int r → va_P G.1 vwCl (R) H → va_D A (R) → va_S A s.heap H locs → decode cX9_within pc = .ok (.ireturn, 1) → W p l e rmX9_within s m #[.int p0, .int p1, .int p2] below meth c H locs 0 0 (MQ below (qQi G (R) s.heap.size (fun (r : Int32) (u : Unit) => k r ) (fun (u : Unit) => R)) #[.int p0, .int p1, .int p2] s 0 0 A) (F0 m pc ls [.int r]) := fun r  H locs ls pc hk hn hP hD hS hd => W.zret hx hb hr hn (fun t ht hW => q_ri (u := (() : Unit)) hAe hk hP hD hS ht) hS.2.2 hd
  have hl := lv_entry ([.int p0, .int p1, .int p2]) (n := 3) (Nat.le_of_ble_eq_true rfl)
  rw [lg_entry_eq]
  generalize (lg_sl ([.int p0, .int p1, .int p2]) ++ List.replicate (3 - (lg_sl ([.int p0, .int p1, .int p2])).length) Slot.unset).toArray = ls at hl ⊢
  have hl : lv_has ls 3 [(0, .int p0), (1, .int p1), (2, .int p2)] := hl
  unfold wX9_within at h
  show W p l e rmX9_within s m #[.int p0, .int p1, .int p2] below meth c s.heap [] 0 0 _ _
  refine lv_iload_n hx hb dX9_within_0 rfl (lv_at hl 0 rfl) ?_
  refine lv_iload_n hx hb dX9_within_1 rfl (lv_at hl 1 rfl) ?_
  refine lv_icmp_lt (tgt := 14) hx hb dX9_within_2 (by decide) (fun c1 => ?_) (fun c1 => ?_)
  · have h := h.1 c1
    exact kX9_within_b14 hx hb hml hown hts hA hKn hret  _ _ _ h hP hD hS (lv_sub hl [] rfl)
  · have h := h.2 c1
    refine lv_iload_n hx hb dX9_within_5 rfl (lv_at hl 0 rfl) ?_
    refine lv_iload_n hx hb dX9_within_6 rfl (lv_at hl 2 rfl) ?_
    refine lv_icmp_gt (tgt := 14) hx hb dX9_within_7 (by decide) (fun c1 => ?_) (fun c1 => ?_)
    · have h := h.1 c1
      exact kX9_within_b14 hx hb hml hown hts hA hKn hret  _ _ _ h hP hD hS (lv_sub hl [] rfl)
    · have h := h.2 c1
      refine lv_iconst (v := (1 : Int32)) hx hb dX9_within_10 (by decide) ?_
      refine lv_goto (tgt := 15) hx hb dX9_within_11 (by decide) ?_
      exact kX9_within_b15 hx hb hml hown hts hA hKn hret (1 : Int32) _ _ _ h hP hD hS (lv_sub hl [] rfl)
abbrev rmX1_term : Room := { frames := 1, cells := 0, slots := 0, locals := 22 }
theorem lX1_term_f9 : Cond.fieldLink RX1 9 "QuarryBlends$Contracts" "terms" "[I" ∈ wsX1_term := by decide +kernel
theorem lX1_term_nX9 : Cond.initialized RX9 ∈ wsX1_term := by decide +kernel
theorem lX1_term_sX9_within : Cond.static yX9_within ∈ wsX1_term := by decide +kernel
theorem iX1_term_X1 : ∀ w ∈ wsX10, w ∈ wsX1_term := by decide +kernel
set_option maxHeartbeats 4000000 in
set_option maxRecDepth 100000 in
theorem kX1_term_b17 {p : Program} {l : Launch} {e : Env} {s : State} {m : MethodId} {args : Array Value} {below : List Frame} {meth : Method} {c : Code} {G : qG} {A : Nat → Prop} {Qf : State → Prop} {R : va_W} {a : Nat → Nat} {k : Int32 → qS → Prop} (hx : p.tables.exec = Jvm.exec) (hb : c.code = cX1_term) (hml : c.maxLocals = 3) (hown : s.vm.findClass RX1 = some m.cls) (hts : ∀ w ∈ wsX1_term, w.before args s = true) (hA : ∀ q : Nat, s.heap.size ≤ q → A q) (hKn : qKn G A s s.heap) (hret : ∀ (r : Int32) (q : qS) (H : Heap) (locs : List Loc) (ls : Array Slot) (pc : Nat), k r q → va_P G.1 vwCl (wQ G a q ++ R) H → va_D A (wQ G a q ++ R) → va_S A s.heap H locs → decode cX1_term pc = .ok (.ireturn, 1) → W p l e rmX1_term s m args below meth c H locs 0 0 Qf (F0 m pc ls [.int r])) : ∀ (q : qS) (H : Heap) (locs : List Loc) (ls : Array Slot), wX1_term_b17 k q → va_P G.1 vwCl (wQ G a q ++ R) H → va_D A (wQ G a q ++ R) → va_S A s.heap H locs → lv_has ls 3 [] → W p l e rmX1_term s m args below meth c H locs 0 0 Qf (F0 m 17 ls []) := by
  intro q H locs ls h hP hD hS hl
  unfold wX1_term_b17 at h
  refine lv_iconst (v := (0 : Int32)) hx hb dX1_term_17 (by decide) ?_
  exact hret _ _ _ _ _ _ h hP hD hS dX1_term_18
set_option maxHeartbeats 4000000 in
set_option maxRecDepth 100000 in
theorem mX1_term (l : Launch) (G : qG) (k : Int32 → qS → Prop) (R : va_W) (a : Nat → Nat) (q : qS) (sz : Nat) (p0 : Int32) (p1 : Int32) : Met l yX1_term wsX1_term rmX1_term (qPc G [.ref (a 16), .int p0, .int p1] (wQ G a q ++ R) sz (wX1_term k q p0 p1)) (qQi G (wQ G a q ++ R) sz (fun (r : Int32) (u : qS) => k r u) (fun (u : qS) => wQ G a u ++ R)) 0 0 (va_A (wQ G a q ++ R) sz) := by
  refine Met.ofW (cc := cX1_term) (maxL := 3) (ret := (some .int)) (by decide) rfl ?_
  intro p e s m args below meth c s₁ B hml hv
  obtain ⟨rfl, hsz, hP, hD0, hKn0, h⟩ := hv
  have hx := B.exec
  have hb := B.bytes
  have hr := B.returns
  have hts := atoms_spec (ws := wsX1_term) B.pre
  have hown : s.vm.findClass RX1 = some m.cls := findClass_of_methodNamed B.named
  have hlocks := B.notSynchronized
  subst hsz
  have hD := hD0.self (sz := s.heap.size)
  generalize hAe : va_A (wQ G a q ++ R) s.heap.size = A at hD hKn0 ⊢
  have hA : ∀ q : Nat, s.heap.size ≤ q → A q := fun q h => by rw [← hAe]; exact Or.inr h
  have hKn : qKn G A s s.heap := hKn0
  have hS : va_S A s.heap s.heap [] := va_S.rf
  have hret : ∀ (r : Int32) (q' : qS) (H : Heap) (locs : List Loc) (ls : Array Slot) (pc : Nat), k r q' → va_P G.1 vwCl (wQ G a q' ++ R) H → va_D A (wQ G a q' ++ R) → va_S A s.heap H locs → decode cX1_term pc = .ok (.ireturn, 1) → W p l e rmX1_term s m #[.ref (a 16), .int p0, .int p1] below meth c H locs 0 0 (MQ below (qQi G (wQ G a q ++ R) s.heap.size (fun (r : Int32) (u : qS) => k r u) (fun (u : qS) => wQ G a u ++ R)) #[.ref (a 16), .int p0, .int p1] s 0 0 A) (F0 m pc ls [.int r]) := fun r q' H locs ls pc hk hP hD hS hd => W.iret hx hb hr (fun t ht hW => q_ri (u := (q' : qS)) hAe hk hP hD hS ht) hS.2.2 hd
  have hl := lv_entry ([.ref (a 16), .int p0, .int p1]) (n := 3) (Nat.le_of_ble_eq_true rfl)
  rw [lg_entry_eq]
  generalize (lg_sl ([.ref (a 16), .int p0, .int p1]) ++ List.replicate (3 - (lg_sl ([.ref (a 16), .int p0, .int p1])).length) Slot.unset).toArray = ls at hl ⊢
  have hl : lv_has ls 3 [(0, .ref (a 16)), (1, .int p0), (2, .int p1)] := hl
  unfold wX1_term at h
  show W p l e rmX1_term s m #[.ref (a 16), .int p0, .int p1] below meth c s.heap [] 0 0 _ _
  refine lv_aload_n hx hb dX1_term_0 rfl (lv_at hl 0 rfl) ?_
  refine lv_iload_n hx hb dX1_term_1 rfl (lv_at hl 1 rfl) ?_
  refine qc_vi (As := [.int p0]) (rest := []) ⟨hx, hb, hml, hown, hts⟩ (mX1_has l G _ _ a q _ p0) (cwV 1 hts gX1_term_X1_has rfl rfl rfl (by decide +kernel) ⟨Nat.le_of_ble_eq_true rfl, Nat.le_of_ble_eq_true rfl⟩) hP hD hS hA hKn 15 1 rfl rfl rfl h rfl hl.1 rfl (Nat.le_of_ble_eq_true rfl) dX1_term_2 ⟨Nat.zero_le _, Nat.zero_le _⟩ (fun r1 q2 H locs h hP hD hS => ?_)
  have hP : va_P G.1 vwCl (wQ G a q2 ++ R) H := hP
  have hD : va_D A (wQ G a q2 ++ R) := hD
  refine lv_if_eq (tgt := 17) hx hb dX1_term_5 (by decide) (fun c1 => ?_) (fun c1 => ?_)
  · have h := h.1 c1
    exact kX1_term_b17 hx hb hml hown hts hA hKn hret q2 _ _ _ h hP hD hS (lv_sub hl [] rfl)
  · have h := h.2 c1
    refine lv_iload_n hx hb dX1_term_8 rfl (lv_at hl 2 rfl) ?_
    refine lv_iconst (v := (0 : Int32)) hx hb dX1_term_9 (by decide) ?_
    refine lv_iconst (v := (5 : Int32)) hx hb dX1_term_10 (by decide) ?_
    refine qc_ni (As := [.int p1, .int (0 : Int32), .int (5 : Int32)]) (rest := []) ⟨hx, hb, hml, hown, hts⟩ (mX9_within l G _ _ _ p1 (0 : Int32) (5 : Int32)) ⟨va_cnB 3 hts gX1_term_X9_within_n27 rfl rfl rfl (hKn.2.1 _ (List.mem_of_getElem? (i := 16) rfl)) (hts _ lX1_term_nX9) (by decide +kernel) ⟨Nat.le_of_ble_eq_true rfl, Nat.le_of_ble_eq_true rfl⟩, (hts _ lX1_term_sX9_within), trivial⟩ hP hD hS hA hKn h rfl hl.1 rfl (Nat.le_of_ble_eq_true rfl) dX1_term_11 ⟨Nat.zero_le _, Nat.zero_le _⟩ (fun r3 _ H locs h hP hD hS => ?_)
    have hP : va_P G.1 vwCl (wQ G a q2 ++ R) H := hP
    have hD : va_D A (wQ G a q2 ++ R) := hD
    refine lv_if_ne (tgt := 19) hx hb dX1_term_14 (by decide) (fun c1 => ?_) (fun c1 => ?_)
    · have h := h.1 c1
      refine lv_aload_n hx hb dX1_term_19 rfl (lv_at hl 0 rfl) ?_
      refine va_get (D := G.1) (ci := 1) (v := .ref (a 12)) (C := RX1) (T := TX1) (N := 2) hx hb hts iX1_term_X1 hown hKn.k hP 15 rfl rfl 0 (by decide) (hts _ lX1_term_f9) (fun _ h9 => h9) rfl dX1_term_20 ?_
      refine lv_iload_n hx hb dX1_term_23 rfl (lv_at hl 1 rfl) ?_
      refine lv_bipush (v := (6 : Int32)) hx hb dX1_term_24 (by decide) ?_
      refine lv_imul hx hb dX1_term_26 ?_
      refine lv_iload_n hx hb dX1_term_27 rfl (lv_at hl 2 rfl) ?_
      refine lv_iadd hx hb dX1_term_28 ?_
      obtain ⟨hin, h⟩ := h
      refine va_iald hx hb hKn.k hP 16 0 rfl rfl hin dX1_term_29 ?_
      exact hret _ _ _ _ _ _ h hP hD hS dX1_term_30
    · have h := h.2 c1
      exact kX1_term_b17 hx hb hml hown hts hA hKn hret q2 _ _ _ h hP hD hS (lv_sub hl [] rfl)
abbrev rmX0_reasonAgainst : Room := { frames := 0, cells := 0, slots := 0, locals := 0 }
theorem lX0_reasonAgainst_f15 : Cond.fieldLink RX0 15 "QuarryBlends$Blend" "tonnes" "I" ∈ wsX0_reasonAgainst := by decide +kernel
theorem lX0_reasonAgainst_f21 : Cond.fieldLink RX0 21 "QuarryBlends$Blend" "leastFine" "I" ∈ wsX0_reasonAgainst := by decide +kernel
theorem lX0_reasonAgainst_f24 : Cond.fieldLink RX0 24 "QuarryBlends$Blend" "mostFine" "I" ∈ wsX0_reasonAgainst := by decide +kernel
theorem lX0_reasonAgainst_f27 : Cond.fieldLink RX0 27 "QuarryBlends$Blend" "leastCoarse" "I" ∈ wsX0_reasonAgainst := by decide +kernel
theorem lX0_reasonAgainst_f30 : Cond.fieldLink RX0 30 "QuarryBlends$Blend" "mostCoarse" "I" ∈ wsX0_reasonAgainst := by decide +kernel
theorem lX0_reasonAgainst_f44 : Cond.fieldLink RX0 44 "QuarryBlends$Blend" "fine" "I" ∈ wsX0_reasonAgainst := by decide +kernel
theorem iX0_reasonAgainst_X0 : ∀ w ∈ wsX00, w ∈ wsX0_reasonAgainst := by decide +kernel
set_option maxHeartbeats 4000000 in
set_option maxRecDepth 100000 in
theorem kX0_reasonAgainst_b58 {p : Program} {l : Launch} {e : Env} {s : State} {m : MethodId} {args : Array Value} {below : List Frame} {meth : Method} {c : Code} {G : qG} {A : Nat → Prop} {Qf : State → Prop} {R : va_W} {a : Nat → Nat} {k : Int32 → qS → Prop} (hx : p.tables.exec = Jvm.exec) (hb : c.code = cX0_reasonAgainst) (hml : c.maxLocals = 2) (hown : s.vm.findClass RX0 = some m.cls) (hts : ∀ w ∈ wsX0_reasonAgainst, w.before args s = true) (hA : ∀ q : Nat, s.heap.size ≤ q → A q) (hKn : qKn G A s s.heap) (hret : ∀ (r : Int32) (q : qS) (H : Heap) (locs : List Loc) (ls : Array Slot) (pc : Nat), k r q → va_P G.1 vwCl (wQ G a q ++ R) H → va_D A (wQ G a q ++ R) → va_S A s.heap H locs → decode cX0_reasonAgainst pc = .ok (.ireturn, 1) → W p l e rmX0_reasonAgainst s m args below meth c H locs 0 0 Qf (F0 m pc ls [.int r])) : ∀ (q : qS) (H : Heap) (locs : List Loc) (ls : Array Slot), wX0_reasonAgainst_b58 k q → va_P G.1 vwCl (wQ G a q ++ R) H → va_D A (wQ G a q ++ R) → va_S A s.heap H locs → lv_has ls 2 [] → W p l e rmX0_reasonAgainst s m args below meth c H locs 0 0 Qf (F0 m 58 ls []) := by
  intro q H locs ls h hP hD hS hl
  unfold wX0_reasonAgainst_b58 at h
  refine lv_iconst (v := (2 : Int32)) hx hb dX0_reasonAgainst_58 (by decide) ?_
  exact hret _ _ _ _ _ _ h hP hD hS dX0_reasonAgainst_59
set_option maxHeartbeats 4000000 in
set_option maxRecDepth 100000 in
theorem kX0_reasonAgainst_b110 {p : Program} {l : Launch} {e : Env} {s : State} {m : MethodId} {args : Array Value} {below : List Frame} {meth : Method} {c : Code} {G : qG} {A : Nat → Prop} {Qf : State → Prop} {R : va_W} {a : Nat → Nat} {k : Int32 → qS → Prop} (hx : p.tables.exec = Jvm.exec) (hb : c.code = cX0_reasonAgainst) (hml : c.maxLocals = 2) (hown : s.vm.findClass RX0 = some m.cls) (hts : ∀ w ∈ wsX0_reasonAgainst, w.before args s = true) (hA : ∀ q : Nat, s.heap.size ≤ q → A q) (hKn : qKn G A s s.heap) (hret : ∀ (r : Int32) (q : qS) (H : Heap) (locs : List Loc) (ls : Array Slot) (pc : Nat), k r q → va_P G.1 vwCl (wQ G a q ++ R) H → va_D A (wQ G a q ++ R) → va_S A s.heap H locs → decode cX0_reasonAgainst pc = .ok (.ireturn, 1) → W p l e rmX0_reasonAgainst s m args below meth c H locs 0 0 Qf (F0 m pc ls [.int r])) : ∀ (q : qS) (z0 : Int32) (H : Heap) (locs : List Loc) (ls : Array Slot), wX0_reasonAgainst_b110 k q z0 → va_P G.1 vwCl (wQ G a q ++ R) H → va_D A (wQ G a q ++ R) → va_S A s.heap H locs → lv_has ls 2 [] → W p l e rmX0_reasonAgainst s m args below meth c H locs 0 0 Qf (F0 m 110 ls [.int z0]) := by
  intro q z0 H locs ls h hP hD hS hl
  unfold wX0_reasonAgainst_b110 at h
  exact hret _ _ _ _ _ _ h hP hD hS dX0_reasonAgainst_110
set_option maxHeartbeats 4000000 in
set_option maxRecDepth 100000 in
theorem kX0_reasonAgainst_b105 {p : Program} {l : Launch} {e : Env} {s : State} {m : MethodId} {args : Array Value} {below : List Frame} {meth : Method} {c : Code} {G : qG} {A : Nat → Prop} {Qf : State → Prop} {R : va_W} {a : Nat → Nat} {k : Int32 → qS → Prop} (hx : p.tables.exec = Jvm.exec) (hb : c.code = cX0_reasonAgainst) (hml : c.maxLocals = 2) (hown : s.vm.findClass RX0 = some m.cls) (hts : ∀ w ∈ wsX0_reasonAgainst, w.before args s = true) (hA : ∀ q : Nat, s.heap.size ≤ q → A q) (hKn : qKn G A s s.heap) (hret : ∀ (r : Int32) (q : qS) (H : Heap) (locs : List Loc) (ls : Array Slot) (pc : Nat), k r q → va_P G.1 vwCl (wQ G a q ++ R) H → va_D A (wQ G a q ++ R) → va_S A s.heap H locs → decode cX0_reasonAgainst pc = .ok (.ireturn, 1) → W p l e rmX0_reasonAgainst s m args below meth c H locs 0 0 Qf (F0 m pc ls [.int r])) : ∀ (q : qS) (H : Heap) (locs : List Loc) (ls : Array Slot), wX0_reasonAgainst_b105 k q → va_P G.1 vwCl (wQ G a q ++ R) H → va_D A (wQ G a q ++ R) → va_S A s.heap H locs → lv_has ls 2 [] → W p l e rmX0_reasonAgainst s m args below meth c H locs 0 0 Qf (F0 m 105 ls []) := by
  intro q H locs ls h hP hD hS hl
  unfold wX0_reasonAgainst_b105 at h
  refine lv_iconst (v := (5 : Int32)) hx hb dX0_reasonAgainst_105 (by decide) ?_
  refine lv_goto (tgt := 110) hx hb dX0_reasonAgainst_106 (by decide) ?_
  exact kX0_reasonAgainst_b110 hx hb hml hown hts hA hKn hret q (5 : Int32) _ _ _ h hP hD hS (lv_sub hl [] rfl)
set_option maxHeartbeats 4000000 in
set_option maxRecDepth 100000 in
theorem mX0_reasonAgainst (l : Launch) (G : qG) (k : Int32 → qS → Prop) (R : va_W) (a : Nat → Nat) (q : qS) (sz : Nat) : Met l yX0_reasonAgainst wsX0_reasonAgainst rmX0_reasonAgainst (qPc G [.ref (a 17), .ref (a 11)] (wQ G a q ++ R) sz (wX0_reasonAgainst k q)) (qQi G (wQ G a q ++ R) sz (fun (r : Int32) (u : qS) => k r u) (fun (u : qS) => wQ G a u ++ R)) 0 0 (va_A (wQ G a q ++ R) sz) := by
  refine Met.ofW (cc := cX0_reasonAgainst) (maxL := 2) (ret := (some .int)) (by decide) rfl ?_
  intro p e s m args below meth c s₁ B hml hv
  obtain ⟨rfl, hsz, hP, hD0, hKn0, h⟩ := hv
  have hx := B.exec
  have hb := B.bytes
  have hr := B.returns
  have hts := atoms_spec (ws := wsX0_reasonAgainst) B.pre
  have hown : s.vm.findClass RX0 = some m.cls := findClass_of_methodNamed B.named
  have hlocks := B.notSynchronized
  subst hsz
  have hD := hD0.self (sz := s.heap.size)
  generalize hAe : va_A (wQ G a q ++ R) s.heap.size = A at hD hKn0 ⊢
  have hA : ∀ q : Nat, s.heap.size ≤ q → A q := fun q h => by rw [← hAe]; exact Or.inr h
  have hKn : qKn G A s s.heap := hKn0
  have hS : va_S A s.heap s.heap [] := va_S.rf
  have hret : ∀ (r : Int32) (q' : qS) (H : Heap) (locs : List Loc) (ls : Array Slot) (pc : Nat), k r q' → va_P G.1 vwCl (wQ G a q' ++ R) H → va_D A (wQ G a q' ++ R) → va_S A s.heap H locs → decode cX0_reasonAgainst pc = .ok (.ireturn, 1) → W p l e rmX0_reasonAgainst s m #[.ref (a 17), .ref (a 11)] below meth c H locs 0 0 (MQ below (qQi G (wQ G a q ++ R) s.heap.size (fun (r : Int32) (u : qS) => k r u) (fun (u : qS) => wQ G a u ++ R)) #[.ref (a 17), .ref (a 11)] s 0 0 A) (F0 m pc ls [.int r]) := fun r q' H locs ls pc hk hP hD hS hd => W.iret hx hb hr (fun t ht hW => q_ri (u := (q' : qS)) hAe hk hP hD hS ht) hS.2.2 hd
  have hl := lv_entry ([.ref (a 17), .ref (a 11)]) (n := 2) (Nat.le_of_ble_eq_true rfl)
  rw [lg_entry_eq]
  generalize (lg_sl ([.ref (a 17), .ref (a 11)]) ++ List.replicate (2 - (lg_sl ([.ref (a 17), .ref (a 11)])).length) Slot.unset).toArray = ls at hl ⊢
  have hl : lv_has ls 2 [(0, .ref (a 17)), (1, .ref (a 11))] := hl
  unfold wX0_reasonAgainst at h
  show W p l e rmX0_reasonAgainst s m #[.ref (a 17), .ref (a 11)] below meth c s.heap [] 0 0 _ _
  refine lv_aload_n hx hb dX0_reasonAgainst_0 rfl (lv_at hl 1 rfl) ?_
  refine lv_iconst (v := (0 : Int32)) hx hb dX0_reasonAgainst_1 (by decide) ?_
  refine va_iald hx hb hKn.k hP 14 0 rfl rfl (by unfold vp_in; decide) dX0_reasonAgainst_2 ?_
  refine lv_aload_n hx hb dX0_reasonAgainst_3 rfl (lv_at hl 1 rfl) ?_
  refine lv_iconst (v := (1 : Int32)) hx hb dX0_reasonAgainst_4 (by decide) ?_
  refine va_iald hx hb hKn.k hP 14 0 rfl rfl (by unfold vp_in; decide) dX0_reasonAgainst_5 ?_
  refine lv_iadd hx hb dX0_reasonAgainst_6 ?_
  refine lv_aload_n hx hb dX0_reasonAgainst_7 rfl (lv_at hl 1 rfl) ?_
  refine lv_iconst (v := (2 : Int32)) hx hb dX0_reasonAgainst_8 (by decide) ?_
  refine va_iald hx hb hKn.k hP 14 0 rfl rfl (by unfold vp_in; decide) dX0_reasonAgainst_9 ?_
  refine lv_iadd hx hb dX0_reasonAgainst_10 ?_
  refine lv_aload_n hx hb dX0_reasonAgainst_11 rfl (lv_at hl 0 rfl) ?_
  refine va_get (D := G.1) (ci := 0) (v := .int (q 0 8)) (C := RX0) (T := TX0) (N := 8) hx hb hts iX0_reasonAgainst_X0 hown hKn.k hP 17 rfl rfl 0 (by decide) (hts _ lX0_reasonAgainst_f15) (fun _ h9 => h9) rfl dX0_reasonAgainst_12 ?_
  refine lv_icmp_ge (tgt := 20) hx hb dX0_reasonAgainst_15 (by decide) (fun c1 => ?_) (fun c1 => ?_)
  · have h := h.1 c1
    refine lv_aload_n hx hb dX0_reasonAgainst_20 rfl (lv_at hl 0 rfl) ?_
    refine va_get (D := G.1) (ci := 0) (v := .int (q 0 9)) (C := RX0) (T := TX0) (N := 8) hx hb hts iX0_reasonAgainst_X0 hown hKn.k hP 17 rfl rfl 1 (by decide) (hts _ lX0_reasonAgainst_f21) (fun _ h9 => h9) rfl dX0_reasonAgainst_21 ?_
    refine lv_aload_n hx hb dX0_reasonAgainst_24 rfl (lv_at hl 0 rfl) ?_
    refine va_get (D := G.1) (ci := 0) (v := .int (q 0 10)) (C := RX0) (T := TX0) (N := 8) hx hb hts iX0_reasonAgainst_X0 hown hKn.k hP 17 rfl rfl 2 (by decide) (hts _ lX0_reasonAgainst_f24) (fun _ h9 => h9) rfl dX0_reasonAgainst_25 ?_
    refine lv_icmp_gt (tgt := 58) hx hb dX0_reasonAgainst_28 (by decide) (fun c1 => ?_) (fun c1 => ?_)
    · have h := h.1 c1
      exact kX0_reasonAgainst_b58 hx hb hml hown hts hA hKn hret q _ _ _ h hP hD hS (lv_sub hl [] rfl)
    · have h := h.2 c1
      refine lv_aload_n hx hb dX0_reasonAgainst_31 rfl (lv_at hl 0 rfl) ?_
      refine va_get (D := G.1) (ci := 0) (v := .int (q 0 11)) (C := RX0) (T := TX0) (N := 8) hx hb hts iX0_reasonAgainst_X0 hown hKn.k hP 17 rfl rfl 3 (by decide) (hts _ lX0_reasonAgainst_f27) (fun _ h9 => h9) rfl dX0_reasonAgainst_32 ?_
      refine lv_aload_n hx hb dX0_reasonAgainst_35 rfl (lv_at hl 0 rfl) ?_
      refine va_get (D := G.1) (ci := 0) (v := .int (q 0 12)) (C := RX0) (T := TX0) (N := 8) hx hb hts iX0_reasonAgainst_X0 hown hKn.k hP 17 rfl rfl 4 (by decide) (hts _ lX0_reasonAgainst_f30) (fun _ h9 => h9) rfl dX0_reasonAgainst_36 ?_
      refine lv_icmp_gt (tgt := 58) hx hb dX0_reasonAgainst_39 (by decide) (fun c1 => ?_) (fun c1 => ?_)
      · have h := h.1 c1
        exact kX0_reasonAgainst_b58 hx hb hml hown hts hA hKn hret q _ _ _ h hP hD hS (lv_sub hl [] rfl)
      · have h := h.2 c1
        refine lv_aload_n hx hb dX0_reasonAgainst_42 rfl (lv_at hl 0 rfl) ?_
        refine va_get (D := G.1) (ci := 0) (v := .int (q 0 9)) (C := RX0) (T := TX0) (N := 8) hx hb hts iX0_reasonAgainst_X0 hown hKn.k hP 17 rfl rfl 1 (by decide) (hts _ lX0_reasonAgainst_f21) (fun _ h9 => h9) rfl dX0_reasonAgainst_43 ?_
        refine lv_aload_n hx hb dX0_reasonAgainst_46 rfl (lv_at hl 0 rfl) ?_
        refine va_get (D := G.1) (ci := 0) (v := .int (q 0 11)) (C := RX0) (T := TX0) (N := 8) hx hb hts iX0_reasonAgainst_X0 hown hKn.k hP 17 rfl rfl 3 (by decide) (hts _ lX0_reasonAgainst_f27) (fun _ h9 => h9) rfl dX0_reasonAgainst_47 ?_
        refine lv_iadd hx hb dX0_reasonAgainst_50 ?_
        refine lv_aload_n hx hb dX0_reasonAgainst_51 rfl (lv_at hl 0 rfl) ?_
        refine va_get (D := G.1) (ci := 0) (v := .int (q 0 8)) (C := RX0) (T := TX0) (N := 8) hx hb hts iX0_reasonAgainst_X0 hown hKn.k hP 17 rfl rfl 0 (by decide) (hts _ lX0_reasonAgainst_f15) (fun _ h9 => h9) rfl dX0_reasonAgainst_52 ?_
        refine lv_icmp_le (tgt := 60) hx hb dX0_reasonAgainst_55 (by decide) (fun c1 => ?_) (fun c1 => ?_)
        · have h := h.1 c1
          refine lv_aload_n hx hb dX0_reasonAgainst_60 rfl (lv_at hl 1 rfl) ?_
          refine lv_iconst (v := (0 : Int32)) hx hb dX0_reasonAgainst_61 (by decide) ?_
          refine va_iald hx hb hKn.k hP 14 0 rfl rfl (by unfold vp_in; decide) dX0_reasonAgainst_62 ?_
          refine lv_aload_n hx hb dX0_reasonAgainst_63 rfl (lv_at hl 0 rfl) ?_
          refine va_get (D := G.1) (ci := 0) (v := .int (q 0 9)) (C := RX0) (T := TX0) (N := 8) hx hb hts iX0_reasonAgainst_X0 hown hKn.k hP 17 rfl rfl 1 (by decide) (hts _ lX0_reasonAgainst_f21) (fun _ h9 => h9) rfl dX0_reasonAgainst_64 ?_
          refine lv_icmp_ge (tgt := 72) hx hb dX0_reasonAgainst_67 (by decide) (fun c1 => ?_) (fun c1 => ?_)
          · have h := h.1 c1
            refine lv_aload_n hx hb dX0_reasonAgainst_72 rfl (lv_at hl 1 rfl) ?_
            refine lv_iconst (v := (2 : Int32)) hx hb dX0_reasonAgainst_73 (by decide) ?_
            refine va_iald hx hb hKn.k hP 14 0 rfl rfl (by unfold vp_in; decide) dX0_reasonAgainst_74 ?_
            refine lv_aload_n hx hb dX0_reasonAgainst_75 rfl (lv_at hl 0 rfl) ?_
            refine va_get (D := G.1) (ci := 0) (v := .int (q 0 11)) (C := RX0) (T := TX0) (N := 8) hx hb hts iX0_reasonAgainst_X0 hown hKn.k hP 17 rfl rfl 3 (by decide) (hts _ lX0_reasonAgainst_f27) (fun _ h9 => h9) rfl dX0_reasonAgainst_76 ?_
            refine lv_icmp_ge (tgt := 84) hx hb dX0_reasonAgainst_79 (by decide) (fun c1 => ?_) (fun c1 => ?_)
            · have h := h.1 c1
              refine lv_aload_n hx hb dX0_reasonAgainst_84 rfl (lv_at hl 0 rfl) ?_
              refine va_get (D := G.1) (ci := 0) (v := .int (q 0 13)) (C := RX0) (T := TX0) (N := 8) hx hb hts iX0_reasonAgainst_X0 hown hKn.k hP 17 rfl rfl 5 (by decide) (hts _ lX0_reasonAgainst_f44) (fun _ h9 => h9) rfl dX0_reasonAgainst_85 ?_
              refine lv_aload_n hx hb dX0_reasonAgainst_88 rfl (lv_at hl 0 rfl) ?_
              refine va_get (D := G.1) (ci := 0) (v := .int (q 0 10)) (C := RX0) (T := TX0) (N := 8) hx hb hts iX0_reasonAgainst_X0 hown hKn.k hP 17 rfl rfl 2 (by decide) (hts _ lX0_reasonAgainst_f24) (fun _ h9 => h9) rfl dX0_reasonAgainst_89 ?_
              refine lv_icmp_gt (tgt := 105) hx hb dX0_reasonAgainst_92 (by decide) (fun c1 => ?_) (fun c1 => ?_)
              · have h := h.1 c1
                exact kX0_reasonAgainst_b105 hx hb hml hown hts hA hKn hret q _ _ _ h hP hD hS (lv_sub hl [] rfl)
              · have h := h.2 c1
                refine lv_aload_n hx hb dX0_reasonAgainst_95 rfl (lv_at hl 0 rfl) ?_
                refine va_get (D := G.1) (ci := 0) (v := .int (q 0 13)) (C := RX0) (T := TX0) (N := 8) hx hb hts iX0_reasonAgainst_X0 hown hKn.k hP 17 rfl rfl 5 (by decide) (hts _ lX0_reasonAgainst_f44) (fun _ h9 => h9) rfl dX0_reasonAgainst_96 ?_
                refine lv_aload_n hx hb dX0_reasonAgainst_99 rfl (lv_at hl 1 rfl) ?_
                refine lv_iconst (v := (0 : Int32)) hx hb dX0_reasonAgainst_100 (by decide) ?_
                refine va_iald hx hb hKn.k hP 14 0 rfl rfl (by unfold vp_in; decide) dX0_reasonAgainst_101 ?_
                refine lv_icmp_le (tgt := 109) hx hb dX0_reasonAgainst_102 (by decide) (fun c1 => ?_) (fun c1 => ?_)
                · have h := h.1 c1
                  refine lv_iconst (v := (0 : Int32)) hx hb dX0_reasonAgainst_109 (by decide) ?_
                  exact kX0_reasonAgainst_b110 hx hb hml hown hts hA hKn hret q (0 : Int32) _ _ _ h hP hD hS (lv_sub hl [] rfl)
                · have h := h.2 c1
                  exact kX0_reasonAgainst_b105 hx hb hml hown hts hA hKn hret q _ _ _ h hP hD hS (lv_sub hl [] rfl)
            · have h := h.2 c1
              refine lv_iconst (v := (4 : Int32)) hx hb dX0_reasonAgainst_82 (by decide) ?_
              exact hret _ _ _ _ _ _ h hP hD hS dX0_reasonAgainst_83
          · have h := h.2 c1
            refine lv_iconst (v := (3 : Int32)) hx hb dX0_reasonAgainst_70 (by decide) ?_
            exact hret _ _ _ _ _ _ h hP hD hS dX0_reasonAgainst_71
        · have h := h.2 c1
          exact kX0_reasonAgainst_b58 hx hb hml hown hts hA hKn hret q _ _ _ h hP hD hS (lv_sub hl [] rfl)
  · have h := h.2 c1
    refine lv_iconst (v := (1 : Int32)) hx hb dX0_reasonAgainst_18 (by decide) ?_
    exact hret _ _ _ _ _ _ h hP hD hS dX0_reasonAgainst_19
abbrev rmX0_workOut : Room := { frames := 2, cells := 0, slots := 0, locals := 44 }
theorem lX0_workOut_cmax : Cond.code Lib.Math.max.name Lib.Math.max.code 2 (some .int) ∈ wsX0_workOut := by decide +kernel
theorem lX0_workOut_cmin : Cond.code Lib.Math.min.name Lib.Math.min.code 2 (some .int) ∈ wsX0_workOut := by decide +kernel
theorem lX0_workOut_f15 : Cond.fieldLink RX0 15 "QuarryBlends$Blend" "tonnes" "I" ∈ wsX0_workOut := by decide +kernel
theorem lX0_workOut_f21 : Cond.fieldLink RX0 21 "QuarryBlends$Blend" "leastFine" "I" ∈ wsX0_workOut := by decide +kernel
theorem lX0_workOut_f24 : Cond.fieldLink RX0 24 "QuarryBlends$Blend" "mostFine" "I" ∈ wsX0_workOut := by decide +kernel
theorem lX0_workOut_f27 : Cond.fieldLink RX0 27 "QuarryBlends$Blend" "leastCoarse" "I" ∈ wsX0_workOut := by decide +kernel
theorem lX0_workOut_f30 : Cond.fieldLink RX0 30 "QuarryBlends$Blend" "mostCoarse" "I" ∈ wsX0_workOut := by decide +kernel
theorem lX0_workOut_f38 : Cond.fieldLink RX0 38 "QuarryBlends$Blend" "coarse" "I" ∈ wsX0_workOut := by decide +kernel
theorem lX0_workOut_f44 : Cond.fieldLink RX0 44 "QuarryBlends$Blend" "fine" "I" ∈ wsX0_workOut := by decide +kernel
theorem lX0_workOut_f51 : Cond.fieldLink RX0 51 "QuarryBlends$Blend" "reason" "I" ∈ wsX0_workOut := by decide +kernel
theorem lX0_workOut_im : Cond.initialized "java/lang/Math" ∈ wsX0_workOut := by decide +kernel
theorem lX0_workOut_m33 : Cond.methodLink RX0 33 Lib.Math.min.name ∈ wsX0_workOut := by decide +kernel
theorem lX0_workOut_m41 : Cond.methodLink RX0 41 Lib.Math.max.name ∈ wsX0_workOut := by decide +kernel
theorem lX0_workOut_smax : Cond.static Lib.Math.max.name ∈ wsX0_workOut := by decide +kernel
theorem lX0_workOut_smin : Cond.static Lib.Math.min.name ∈ wsX0_workOut := by decide +kernel
theorem iX0_workOut_X0 : ∀ w ∈ wsX00, w ∈ wsX0_workOut := by decide +kernel
set_option maxHeartbeats 4000000 in
set_option maxRecDepth 100000 in
theorem mX0_workOut (l : Launch) (G : qG) (k : qS → Prop) (R : va_W) (a : Nat → Nat) (q : qS) (sz : Nat) (p1 : Int32) : Met l yX0_workOut wsX0_workOut rmX0_workOut (qPc G [.ref (a 17), .ref (a 16), .int p1, .ref (a 11)] (wQ G a q ++ R) sz (wX0_workOut k q p1)) (qQv G (wQ G a q ++ R) sz (fun (u : qS) => k u) (fun (u : qS) => wQ G a u ++ R)) 0 0 (va_A (wQ G a q ++ R) sz) := by
  refine Met.ofW (cc := cX0_workOut) (maxL := 4) (ret := none) (by decide) rfl ?_
  intro p e s m args below meth c s₁ B hml hv
  obtain ⟨rfl, hsz, hP, hD0, hKn0, h⟩ := hv
  have hx := B.exec
  have hb := B.bytes
  have hr := B.returns
  have hts := atoms_spec (ws := wsX0_workOut) B.pre
  have hown : s.vm.findClass RX0 = some m.cls := findClass_of_methodNamed B.named
  have hlocks := B.notSynchronized
  subst hsz
  have hD := hD0.self (sz := s.heap.size)
  generalize hAe : va_A (wQ G a q ++ R) s.heap.size = A at hD hKn0 ⊢
  have hA : ∀ q : Nat, s.heap.size ≤ q → A q := fun q h => by rw [← hAe]; exact Or.inr h
  have hKn : qKn G A s s.heap := hKn0
  have hS : va_S A s.heap s.heap [] := va_S.rf
  have hret : ∀ (q' : qS) (H : Heap) (locs : List Loc) (ls : Array Slot) (pc : Nat), k q' → va_P G.1 vwCl (wQ G a q' ++ R) H → va_D A (wQ G a q' ++ R) → va_S A s.heap H locs → decode cX0_workOut pc = .ok (.return_, 1) → W p l e rmX0_workOut s m #[.ref (a 17), .ref (a 16), .int p1, .ref (a 11)] below meth c H locs 0 0 (MQ below (qQv G (wQ G a q ++ R) s.heap.size (fun (u : qS) => k u) (fun (u : qS) => wQ G a u ++ R)) #[.ref (a 17), .ref (a 16), .int p1, .ref (a 11)] s 0 0 A) (F0 m pc ls []) := fun q' H locs ls pc hk hP hD hS hd => W.vret hx hb hr (fun t ht hW => q_rv (u := (q' : qS)) hAe hk hP hD hS ht) hS.2.2 hd
  have hl := lv_entry ([.ref (a 17), .ref (a 16), .int p1, .ref (a 11)]) (n := 4) (Nat.le_of_ble_eq_true rfl)
  rw [lg_entry_eq]
  generalize (lg_sl ([.ref (a 17), .ref (a 16), .int p1, .ref (a 11)]) ++ List.replicate (4 - (lg_sl ([.ref (a 17), .ref (a 16), .int p1, .ref (a 11)])).length) Slot.unset).toArray = ls at hl ⊢
  have hl : lv_has ls 4 [(0, .ref (a 17)), (1, .ref (a 16)), (2, .int p1), (3, .ref (a 11))] := hl
  unfold wX0_workOut at h
  show W p l e rmX0_workOut s m #[.ref (a 17), .ref (a 16), .int p1, .ref (a 11)] below meth c s.heap [] 0 0 _ _
  refine lv_aload_n hx hb dX0_workOut_0 rfl (lv_at hl 0 rfl) ?_
  refine lv_aload_n hx hb dX0_workOut_1 rfl (lv_at hl 1 rfl) ?_
  refine lv_iload_n hx hb dX0_workOut_2 rfl (lv_at hl 2 rfl) ?_
  refine lv_iconst (v := (0 : Int32)) hx hb dX0_workOut_3 (by decide) ?_
  refine qc_vi (As := [.int p1, .int (0 : Int32)]) (rest := [.ref (a 17)]) ⟨hx, hb, hml, hown, hts⟩ (mX1_term l G _ _ a q _ p1 (0 : Int32)) (cwV 2 hts gX0_workOut_X1_term rfl rfl rfl (by decide +kernel) ⟨Nat.le_of_ble_eq_true rfl, Nat.le_of_ble_eq_true rfl⟩) hP hD hS hA hKn 15 1 rfl rfl rfl h rfl hl.1 rfl (Nat.le_of_ble_eq_true rfl) dX0_workOut_4 ⟨Nat.zero_le _, Nat.zero_le _⟩ (fun r1 q2 H locs h hP hD hS => ?_)
  have hP : va_P G.1 vwCl (wQ G a q2 ++ R) H := hP
  have hD : va_D A (wQ G a q2 ++ R) := hD
  refine va_put (D := G.1) (ci := 0) (v := .int r1) (ty := .int) (C := RX0) (T := TX0) (N := 8) hx hb hts iX0_workOut_X0 tyX0 tyX0_ok nmX0 hown hKn.k hP hD hS 17 rfl rfl 0 (by decide) (hts _ lX0_workOut_f15) (fun _ h9 => h9) rfl (by decide +kernel) rfl rfl (Nat.le_of_ble_eq_true rfl) dX0_workOut_7 (fun H locs hP hD hS => ?_)
  obtain ⟨q3, eq3⟩ : ∃ z : qS, z = up2 q2 0 8 r1 := ⟨_, rfl⟩
  have hP : va_P G.1 vwCl (wQ G a q3 ++ R) H := by rw [eq3]; exact hP
  have hD : va_D A (wQ G a q3 ++ R) := by rw [eq3]; exact hD
  have h := h q3 eq3
  refine lv_aload_n hx hb dX0_workOut_10 rfl (lv_at hl 0 rfl) ?_
  refine lv_aload_n hx hb dX0_workOut_11 rfl (lv_at hl 0 rfl) ?_
  refine va_get (D := G.1) (ci := 0) (v := .int (q3 0 8)) (C := RX0) (T := TX0) (N := 8) hx hb hts iX0_workOut_X0 hown hKn.k hP 17 rfl rfl 0 (by decide) (hts _ lX0_workOut_f15) (fun _ h9 => h9) rfl dX0_workOut_12 ?_
  refine lv_aload_n hx hb dX0_workOut_15 rfl (lv_at hl 1 rfl) ?_
  refine lv_iload_n hx hb dX0_workOut_16 rfl (lv_at hl 2 rfl) ?_
  refine lv_iconst (v := (1 : Int32)) hx hb dX0_workOut_17 (by decide) ?_
  refine qc_vi (As := [.int p1, .int (1 : Int32)]) (rest := [.int (q3 0 8), .ref (a 17)]) ⟨hx, hb, hml, hown, hts⟩ (mX1_term l G _ _ a q3 _ p1 (1 : Int32)) (cwV 2 hts gX0_workOut_X1_term rfl rfl rfl (by decide +kernel) ⟨Nat.le_of_ble_eq_true rfl, Nat.le_of_ble_eq_true rfl⟩) hP hD hS hA hKn 15 1 rfl rfl rfl h rfl hl.1 rfl (Nat.le_of_ble_eq_true rfl) dX0_workOut_18 ⟨Nat.zero_le _, Nat.zero_le _⟩ (fun r4 q5 H locs h hP hD hS => ?_)
  have hP : va_P G.1 vwCl (wQ G a q5 ++ R) H := hP
  have hD : va_D A (wQ G a q5 ++ R) := hD
  refine lv_imul hx hb dX0_workOut_21 ?_
  refine lv_bipush (v := (99 : Int32)) hx hb dX0_workOut_22 (by decide) ?_
  refine lv_iadd hx hb dX0_workOut_24 ?_
  refine lv_bipush (v := (100 : Int32)) hx hb dX0_workOut_25 (by decide) ?_
  refine lv_idiv hx hb dX0_workOut_27 (by decide) ?_
  refine lv_topi (fun y6 ey6 => ?_)
  have h := h y6 ey6
  refine va_put (D := G.1) (ci := 0) (v := .int y6) (ty := .int) (C := RX0) (T := TX0) (N := 8) hx hb hts iX0_workOut_X0 tyX0 tyX0_ok nmX0 hown hKn.k hP hD hS 17 rfl rfl 1 (by decide) (hts _ lX0_workOut_f21) (fun _ h9 => h9) rfl (by decide +kernel) rfl rfl (Nat.le_of_ble_eq_true rfl) dX0_workOut_28 (fun H locs hP hD hS => ?_)
  obtain ⟨q7, eq7⟩ : ∃ z : qS, z = up2 q5 0 9 y6 := ⟨_, rfl⟩
  have hP : va_P G.1 vwCl (wQ G a q7 ++ R) H := by rw [eq7]; exact hP
  have hD : va_D A (wQ G a q7 ++ R) := by rw [eq7]; exact hD
  have h := h q7 eq7
  refine lv_aload_n hx hb dX0_workOut_31 rfl (lv_at hl 0 rfl) ?_
  refine lv_aload_n hx hb dX0_workOut_32 rfl (lv_at hl 0 rfl) ?_
  refine va_get (D := G.1) (ci := 0) (v := .int (q7 0 8)) (C := RX0) (T := TX0) (N := 8) hx hb hts iX0_workOut_X0 hown hKn.k hP 17 rfl rfl 0 (by decide) (hts _ lX0_workOut_f15) (fun _ h9 => h9) rfl dX0_workOut_33 ?_
  refine lv_aload_n hx hb dX0_workOut_36 rfl (lv_at hl 1 rfl) ?_
  refine lv_iload_n hx hb dX0_workOut_37 rfl (lv_at hl 2 rfl) ?_
  refine lv_iconst (v := (2 : Int32)) hx hb dX0_workOut_38 (by decide) ?_
  refine qc_vi (As := [.int p1, .int (2 : Int32)]) (rest := [.int (q7 0 8), .ref (a 17)]) ⟨hx, hb, hml, hown, hts⟩ (mX1_term l G _ _ a q7 _ p1 (2 : Int32)) (cwV 2 hts gX0_workOut_X1_term rfl rfl rfl (by decide +kernel) ⟨Nat.le_of_ble_eq_true rfl, Nat.le_of_ble_eq_true rfl⟩) hP hD hS hA hKn 15 1 rfl rfl rfl h rfl hl.1 rfl (Nat.le_of_ble_eq_true rfl) dX0_workOut_39 ⟨Nat.zero_le _, Nat.zero_le _⟩ (fun r8 q9 H locs h hP hD hS => ?_)
  have hP : va_P G.1 vwCl (wQ G a q9 ++ R) H := hP
  have hD : va_D A (wQ G a q9 ++ R) := hD
  refine lv_imul hx hb dX0_workOut_42 ?_
  refine lv_bipush (v := (100 : Int32)) hx hb dX0_workOut_43 (by decide) ?_
  refine lv_idiv hx hb dX0_workOut_45 (by decide) ?_
  refine lv_topi (fun y10 ey10 => ?_)
  have h := h y10 ey10
  refine va_put (D := G.1) (ci := 0) (v := .int y10) (ty := .int) (C := RX0) (T := TX0) (N := 8) hx hb hts iX0_workOut_X0 tyX0 tyX0_ok nmX0 hown hKn.k hP hD hS 17 rfl rfl 2 (by decide) (hts _ lX0_workOut_f24) (fun _ h9 => h9) rfl (by decide +kernel) rfl rfl (Nat.le_of_ble_eq_true rfl) dX0_workOut_46 (fun H locs hP hD hS => ?_)
  obtain ⟨q11, eq11⟩ : ∃ z : qS, z = up2 q9 0 10 y10 := ⟨_, rfl⟩
  have hP : va_P G.1 vwCl (wQ G a q11 ++ R) H := by rw [eq11]; exact hP
  have hD : va_D A (wQ G a q11 ++ R) := by rw [eq11]; exact hD
  have h := h q11 eq11
  refine lv_aload_n hx hb dX0_workOut_49 rfl (lv_at hl 0 rfl) ?_
  refine lv_aload_n hx hb dX0_workOut_50 rfl (lv_at hl 0 rfl) ?_
  refine va_get (D := G.1) (ci := 0) (v := .int (q11 0 8)) (C := RX0) (T := TX0) (N := 8) hx hb hts iX0_workOut_X0 hown hKn.k hP 17 rfl rfl 0 (by decide) (hts _ lX0_workOut_f15) (fun _ h9 => h9) rfl dX0_workOut_51 ?_
  refine lv_aload_n hx hb dX0_workOut_54 rfl (lv_at hl 1 rfl) ?_
  refine lv_iload_n hx hb dX0_workOut_55 rfl (lv_at hl 2 rfl) ?_
  refine lv_iconst (v := (3 : Int32)) hx hb dX0_workOut_56 (by decide) ?_
  refine qc_vi (As := [.int p1, .int (3 : Int32)]) (rest := [.int (q11 0 8), .ref (a 17)]) ⟨hx, hb, hml, hown, hts⟩ (mX1_term l G _ _ a q11 _ p1 (3 : Int32)) (cwV 2 hts gX0_workOut_X1_term rfl rfl rfl (by decide +kernel) ⟨Nat.le_of_ble_eq_true rfl, Nat.le_of_ble_eq_true rfl⟩) hP hD hS hA hKn 15 1 rfl rfl rfl h rfl hl.1 rfl (Nat.le_of_ble_eq_true rfl) dX0_workOut_57 ⟨Nat.zero_le _, Nat.zero_le _⟩ (fun r12 q13 H locs h hP hD hS => ?_)
  have hP : va_P G.1 vwCl (wQ G a q13 ++ R) H := hP
  have hD : va_D A (wQ G a q13 ++ R) := hD
  refine lv_imul hx hb dX0_workOut_60 ?_
  refine lv_bipush (v := (99 : Int32)) hx hb dX0_workOut_61 (by decide) ?_
  refine lv_iadd hx hb dX0_workOut_63 ?_
  refine lv_bipush (v := (100 : Int32)) hx hb dX0_workOut_64 (by decide) ?_
  refine lv_idiv hx hb dX0_workOut_66 (by decide) ?_
  refine lv_topi (fun y14 ey14 => ?_)
  have h := h y14 ey14
  refine va_put (D := G.1) (ci := 0) (v := .int y14) (ty := .int) (C := RX0) (T := TX0) (N := 8) hx hb hts iX0_workOut_X0 tyX0 tyX0_ok nmX0 hown hKn.k hP hD hS 17 rfl rfl 3 (by decide) (hts _ lX0_workOut_f27) (fun _ h9 => h9) rfl (by decide +kernel) rfl rfl (Nat.le_of_ble_eq_true rfl) dX0_workOut_67 (fun H locs hP hD hS => ?_)
  obtain ⟨q15, eq15⟩ : ∃ z : qS, z = up2 q13 0 11 y14 := ⟨_, rfl⟩
  have hP : va_P G.1 vwCl (wQ G a q15 ++ R) H := by rw [eq15]; exact hP
  have hD : va_D A (wQ G a q15 ++ R) := by rw [eq15]; exact hD
  have h := h q15 eq15
  refine lv_aload_n hx hb dX0_workOut_70 rfl (lv_at hl 0 rfl) ?_
  refine lv_aload_n hx hb dX0_workOut_71 rfl (lv_at hl 0 rfl) ?_
  refine va_get (D := G.1) (ci := 0) (v := .int (q15 0 8)) (C := RX0) (T := TX0) (N := 8) hx hb hts iX0_workOut_X0 hown hKn.k hP 17 rfl rfl 0 (by decide) (hts _ lX0_workOut_f15) (fun _ h9 => h9) rfl dX0_workOut_72 ?_
  refine lv_aload_n hx hb dX0_workOut_75 rfl (lv_at hl 1 rfl) ?_
  refine lv_iload_n hx hb dX0_workOut_76 rfl (lv_at hl 2 rfl) ?_
  refine lv_iconst (v := (4 : Int32)) hx hb dX0_workOut_77 (by decide) ?_
  refine qc_vi (As := [.int p1, .int (4 : Int32)]) (rest := [.int (q15 0 8), .ref (a 17)]) ⟨hx, hb, hml, hown, hts⟩ (mX1_term l G _ _ a q15 _ p1 (4 : Int32)) (cwV 2 hts gX0_workOut_X1_term rfl rfl rfl (by decide +kernel) ⟨Nat.le_of_ble_eq_true rfl, Nat.le_of_ble_eq_true rfl⟩) hP hD hS hA hKn 15 1 rfl rfl rfl h rfl hl.1 rfl (Nat.le_of_ble_eq_true rfl) dX0_workOut_78 ⟨Nat.zero_le _, Nat.zero_le _⟩ (fun r16 q17 H locs h hP hD hS => ?_)
  have hP : va_P G.1 vwCl (wQ G a q17 ++ R) H := hP
  have hD : va_D A (wQ G a q17 ++ R) := hD
  refine lv_imul hx hb dX0_workOut_81 ?_
  refine lv_bipush (v := (100 : Int32)) hx hb dX0_workOut_82 (by decide) ?_
  refine lv_idiv hx hb dX0_workOut_84 (by decide) ?_
  refine lv_topi (fun y18 ey18 => ?_)
  have h := h y18 ey18
  refine va_put (D := G.1) (ci := 0) (v := .int y18) (ty := .int) (C := RX0) (T := TX0) (N := 8) hx hb hts iX0_workOut_X0 tyX0 tyX0_ok nmX0 hown hKn.k hP hD hS 17 rfl rfl 4 (by decide) (hts _ lX0_workOut_f30) (fun _ h9 => h9) rfl (by decide +kernel) rfl rfl (Nat.le_of_ble_eq_true rfl) dX0_workOut_85 (fun H locs hP hD hS => ?_)
  obtain ⟨q19, eq19⟩ : ∃ z : qS, z = up2 q17 0 12 y18 := ⟨_, rfl⟩
  have hP : va_P G.1 vwCl (wQ G a q19 ++ R) H := by rw [eq19]; exact hP
  have hD : va_D A (wQ G a q19 ++ R) := by rw [eq19]; exact hD
  have h := h q19 eq19
  refine lv_aload_n hx hb dX0_workOut_88 rfl (lv_at hl 0 rfl) ?_
  refine lv_aload_n hx hb dX0_workOut_89 rfl (lv_at hl 0 rfl) ?_
  refine va_get (D := G.1) (ci := 0) (v := .int (q19 0 12)) (C := RX0) (T := TX0) (N := 8) hx hb hts iX0_workOut_X0 hown hKn.k hP 17 rfl rfl 4 (by decide) (hts _ lX0_workOut_f30) (fun _ h9 => h9) rfl dX0_workOut_90 ?_
  refine lv_aload_n hx hb dX0_workOut_93 rfl (lv_at hl 3 rfl) ?_
  refine lv_iconst (v := (2 : Int32)) hx hb dX0_workOut_94 (by decide) ?_
  refine va_iald hx hb hKn.k hP 14 0 rfl rfl (by unfold vp_in; decide) dX0_workOut_95 ?_
  refine va_mmin hx hb (hml.trans hl.1.symm) hown (hts _ lX0_workOut_m33) (hts _ lX0_workOut_smin) (hts _ lX0_workOut_im) (hts _ lX0_workOut_cmin) (Nat.le_of_ble_eq_true rfl) (Nat.le_of_ble_eq_true rfl) (Nat.zero_le _) (Nat.zero_le _) dX0_workOut_96 ?_
  refine lv_topi (fun y20 ey20 => ?_)
  have h := h y20 ey20
  refine lv_aload_n hx hb dX0_workOut_99 rfl (lv_at hl 0 rfl) ?_
  refine va_get (D := G.1) (ci := 0) (v := .int (q19 0 8)) (C := RX0) (T := TX0) (N := 8) hx hb hts iX0_workOut_X0 hown hKn.k hP 17 rfl rfl 0 (by decide) (hts _ lX0_workOut_f15) (fun _ h9 => h9) rfl dX0_workOut_100 ?_
  refine lv_aload_n hx hb dX0_workOut_103 rfl (lv_at hl 0 rfl) ?_
  refine va_get (D := G.1) (ci := 0) (v := .int (q19 0 9)) (C := RX0) (T := TX0) (N := 8) hx hb hts iX0_workOut_X0 hown hKn.k hP 17 rfl rfl 1 (by decide) (hts _ lX0_workOut_f21) (fun _ h9 => h9) rfl dX0_workOut_104 ?_
  refine lv_isub hx hb dX0_workOut_107 ?_
  refine va_mmin hx hb (hml.trans hl.1.symm) hown (hts _ lX0_workOut_m33) (hts _ lX0_workOut_smin) (hts _ lX0_workOut_im) (hts _ lX0_workOut_cmin) (Nat.le_of_ble_eq_true rfl) (Nat.le_of_ble_eq_true rfl) (Nat.zero_le _) (Nat.zero_le _) dX0_workOut_108 ?_
  refine lv_topi (fun y21 ey21 => ?_)
  have h := h y21 ey21
  refine va_put (D := G.1) (ci := 0) (v := .int y21) (ty := .int) (C := RX0) (T := TX0) (N := 8) hx hb hts iX0_workOut_X0 tyX0 tyX0_ok nmX0 hown hKn.k hP hD hS 17 rfl rfl 6 (by decide) (hts _ lX0_workOut_f38) (fun _ h9 => h9) rfl (by decide +kernel) rfl rfl (Nat.le_of_ble_eq_true rfl) dX0_workOut_111 (fun H locs hP hD hS => ?_)
  obtain ⟨q22, eq22⟩ : ∃ z : qS, z = up2 q19 0 14 y21 := ⟨_, rfl⟩
  have hP : va_P G.1 vwCl (wQ G a q22 ++ R) H := by rw [eq22]; exact hP
  have hD : va_D A (wQ G a q22 ++ R) := by rw [eq22]; exact hD
  have h := h q22 eq22
  refine lv_aload_n hx hb dX0_workOut_114 rfl (lv_at hl 0 rfl) ?_
  refine lv_aload_n hx hb dX0_workOut_115 rfl (lv_at hl 0 rfl) ?_
  refine va_get (D := G.1) (ci := 0) (v := .int (q22 0 9)) (C := RX0) (T := TX0) (N := 8) hx hb hts iX0_workOut_X0 hown hKn.k hP 17 rfl rfl 1 (by decide) (hts _ lX0_workOut_f21) (fun _ h9 => h9) rfl dX0_workOut_116 ?_
  refine lv_aload_n hx hb dX0_workOut_119 rfl (lv_at hl 0 rfl) ?_
  refine va_get (D := G.1) (ci := 0) (v := .int (q22 0 8)) (C := RX0) (T := TX0) (N := 8) hx hb hts iX0_workOut_X0 hown hKn.k hP 17 rfl rfl 0 (by decide) (hts _ lX0_workOut_f15) (fun _ h9 => h9) rfl dX0_workOut_120 ?_
  refine lv_aload_n hx hb dX0_workOut_123 rfl (lv_at hl 0 rfl) ?_
  refine va_get (D := G.1) (ci := 0) (v := .int (q22 0 14)) (C := RX0) (T := TX0) (N := 8) hx hb hts iX0_workOut_X0 hown hKn.k hP 17 rfl rfl 6 (by decide) (hts _ lX0_workOut_f38) (fun _ h9 => h9) rfl dX0_workOut_124 ?_
  refine lv_isub hx hb dX0_workOut_127 ?_
  refine lv_aload_n hx hb dX0_workOut_128 rfl (lv_at hl 3 rfl) ?_
  refine lv_iconst (v := (1 : Int32)) hx hb dX0_workOut_129 (by decide) ?_
  refine va_iald hx hb hKn.k hP 14 0 rfl rfl (by unfold vp_in; decide) dX0_workOut_130 ?_
  refine lv_isub hx hb dX0_workOut_131 ?_
  refine va_mmax hx hb (hml.trans hl.1.symm) hown (hts _ lX0_workOut_m41) (hts _ lX0_workOut_smax) (hts _ lX0_workOut_im) (hts _ lX0_workOut_cmax) (Nat.le_of_ble_eq_true rfl) (Nat.le_of_ble_eq_true rfl) (Nat.zero_le _) (Nat.zero_le _) dX0_workOut_132 ?_
  refine lv_topi (fun y23 ey23 => ?_)
  have h := h y23 ey23
  refine va_put (D := G.1) (ci := 0) (v := .int y23) (ty := .int) (C := RX0) (T := TX0) (N := 8) hx hb hts iX0_workOut_X0 tyX0 tyX0_ok nmX0 hown hKn.k hP hD hS 17 rfl rfl 5 (by decide) (hts _ lX0_workOut_f44) (fun _ h9 => h9) rfl (by decide +kernel) rfl rfl (Nat.le_of_ble_eq_true rfl) dX0_workOut_135 (fun H locs hP hD hS => ?_)
  obtain ⟨q24, eq24⟩ : ∃ z : qS, z = up2 q22 0 13 y23 := ⟨_, rfl⟩
  have hP : va_P G.1 vwCl (wQ G a q24 ++ R) H := by rw [eq24]; exact hP
  have hD : va_D A (wQ G a q24 ++ R) := by rw [eq24]; exact hD
  have h := h q24 eq24
  refine lv_aload_n hx hb dX0_workOut_138 rfl (lv_at hl 0 rfl) ?_
  refine lv_aload_n hx hb dX0_workOut_139 rfl (lv_at hl 0 rfl) ?_
  refine lv_aload_n hx hb dX0_workOut_140 rfl (lv_at hl 3 rfl) ?_
  refine qc_vi (As := [.ref (a 11)]) (rest := [.ref (a 17)]) ⟨hx, hb, hml, hown, hts⟩ (mX0_reasonAgainst l G _ _ a q24 _ ) (cwV 1 hts gX0_workOut_X0_reasonAgainst rfl rfl rfl (by decide +kernel) ⟨Nat.le_of_ble_eq_true rfl, Nat.le_of_ble_eq_true rfl⟩) hP hD hS hA hKn 17 0 rfl rfl rfl h rfl hl.1 rfl (Nat.le_of_ble_eq_true rfl) dX0_workOut_141 ⟨Nat.zero_le _, Nat.zero_le _⟩ (fun r25 q26 H locs h hP hD hS => ?_)
  have hP : va_P G.1 vwCl (wQ G a q26 ++ R) H := hP
  have hD : va_D A (wQ G a q26 ++ R) := hD
  refine va_put (D := G.1) (ci := 0) (v := .int r25) (ty := .int) (C := RX0) (T := TX0) (N := 8) hx hb hts iX0_workOut_X0 tyX0 tyX0_ok nmX0 hown hKn.k hP hD hS 17 rfl rfl 7 (by decide) (hts _ lX0_workOut_f51) (fun _ h9 => h9) rfl (by decide +kernel) rfl rfl (Nat.le_of_ble_eq_true rfl) dX0_workOut_144 (fun H locs hP hD hS => ?_)
  obtain ⟨q27, eq27⟩ : ∃ z : qS, z = up2 q26 0 15 r25 := ⟨_, rfl⟩
  have hP : va_P G.1 vwCl (wQ G a q27 ++ R) H := by rw [eq27]; exact hP
  have hD : va_D A (wQ G a q27 ++ R) := by rw [eq27]; exact hD
  have h := h q27 eq27
  exact hret _ _ _ _ _ h hP hD hS dX0_workOut_147
abbrev rmX1_areHundredths : Room := { frames := 1, cells := 0, slots := 0, locals := 22 }
theorem lX1_areHundredths_nX9 : Cond.initialized RX9 ∈ wsX1_areHundredths := by decide +kernel
theorem lX1_areHundredths_sX9_within : Cond.static yX9_within ∈ wsX1_areHundredths := by decide +kernel
set_option maxHeartbeats 4000000 in
set_option maxRecDepth 100000 in
theorem kX1_areHundredths_b25 {p : Program} {l : Launch} {e : Env} {s : State} {m : MethodId} {args : Array Value} {below : List Frame} {meth : Method} {c : Code} {G : qG} {A : Nat → Prop} {Qf : State → Prop} {R : va_W}  {k : Int32 → Prop} (hx : p.tables.exec = Jvm.exec) (hb : c.code = cX1_areHundredths) (hml : c.maxLocals = 2) (hown : s.vm.findClass RX1 = some m.cls) (hts : ∀ w ∈ wsX1_areHundredths, w.before args s = true) (hA : ∀ q : Nat, s.heap.size ≤ q → A q) (hKn : qKn G A s s.heap) (hret : ∀ (r : Int32)  (H : Heap) (locs : List Loc) (ls : Array Slot) (pc : Nat), k r  → narrow .boolean (.int r) = .int r → va_P G.1 vwCl (R) H → va_D A (R) → va_S A s.heap H locs → decode cX1_areHundredths pc = .ok (.ireturn, 1) → W p l e rmX1_areHundredths s m args below meth c H locs 0 0 Qf (F0 m pc ls [.int r])) : ∀  (z0 : Int32) (H : Heap) (locs : List Loc) (ls : Array Slot), wX1_areHundredths_b25 k z0 → va_P G.1 vwCl (R) H → va_D A (R) → va_S A s.heap H locs → lv_has ls 2 [] → W p l e rmX1_areHundredths s m args below meth c H locs 0 0 Qf (F0 m 25 ls [.int z0]) := by
  intro z0 H locs ls h hP hD hS hl
  unfold wX1_areHundredths_b25 at h
  obtain ⟨hn1, h⟩ := h
  exact hret _ _ _ _ _ h hn1 hP hD hS dX1_areHundredths_25
set_option maxHeartbeats 4000000 in
set_option maxRecDepth 100000 in
theorem kX1_areHundredths_b24 {p : Program} {l : Launch} {e : Env} {s : State} {m : MethodId} {args : Array Value} {below : List Frame} {meth : Method} {c : Code} {G : qG} {A : Nat → Prop} {Qf : State → Prop} {R : va_W}  {k : Int32 → Prop} (hx : p.tables.exec = Jvm.exec) (hb : c.code = cX1_areHundredths) (hml : c.maxLocals = 2) (hown : s.vm.findClass RX1 = some m.cls) (hts : ∀ w ∈ wsX1_areHundredths, w.before args s = true) (hA : ∀ q : Nat, s.heap.size ≤ q → A q) (hKn : qKn G A s s.heap) (hret : ∀ (r : Int32)  (H : Heap) (locs : List Loc) (ls : Array Slot) (pc : Nat), k r  → narrow .boolean (.int r) = .int r → va_P G.1 vwCl (R) H → va_D A (R) → va_S A s.heap H locs → decode cX1_areHundredths pc = .ok (.ireturn, 1) → W p l e rmX1_areHundredths s m args below meth c H locs 0 0 Qf (F0 m pc ls [.int r])) : ∀  (H : Heap) (locs : List Loc) (ls : Array Slot), wX1_areHundredths_b24 k  → va_P G.1 vwCl (R) H → va_D A (R) → va_S A s.heap H locs → lv_has ls 2 [] → W p l e rmX1_areHundredths s m args below meth c H locs 0 0 Qf (F0 m 24 ls []) := by
  intro  H locs ls h hP hD hS hl
  unfold wX1_areHundredths_b24 at h
  refine lv_iconst (v := (0 : Int32)) hx hb dX1_areHundredths_24 (by decide) ?_
  exact kX1_areHundredths_b25 hx hb hml hown hts hA hKn hret (0 : Int32) _ _ _ h hP hD hS (lv_sub hl [] rfl)
set_option maxHeartbeats 4000000 in
set_option maxRecDepth 100000 in
theorem mX1_areHundredths (l : Launch) (G : qG) (k : Int32 → Prop) (R : va_W)  (sz : Nat) (p0 : Int32) (p1 : Int32) : Met l yX1_areHundredths wsX1_areHundredths rmX1_areHundredths (qPc G [.int p0, .int p1] (R) sz (wX1_areHundredths k  p0 p1)) (qQi G (R) sz (fun (r : Int32) (u : Unit) => k r ) (fun (u : Unit) => R)) 0 0 (va_A (R) sz) := by
  refine Met.ofW (cc := cX1_areHundredths) (maxL := 2) (ret := (some .boolean)) (by decide) rfl ?_
  intro p e s m args below meth c s₁ B hml hv
  obtain ⟨rfl, hsz, hP, hD0, hKn0, h⟩ := hv
  have hx := B.exec
  have hb := B.bytes
  have hr := B.returns
  have hts := atoms_spec (ws := wsX1_areHundredths) B.pre
  have hown : s.vm.findClass RX1 = some m.cls := findClass_of_methodNamed B.named
  have hlocks := B.notSynchronized
  subst hsz
  have hD := hD0.self (sz := s.heap.size)
  generalize hAe : va_A (R) s.heap.size = A at hD hKn0 ⊢
  have hA : ∀ q : Nat, s.heap.size ≤ q → A q := fun q h => by rw [← hAe]; exact Or.inr h
  have hKn : qKn G A s s.heap := hKn0
  have hS : va_S A s.heap s.heap [] := va_S.rf
  have hret : ∀ (r : Int32)  (H : Heap) (locs : List Loc) (ls : Array Slot) (pc : Nat), k r  → narrow .boolean (.int r) = .int r → va_P G.1 vwCl (R) H → va_D A (R) → va_S A s.heap H locs → decode cX1_areHundredths pc = .ok (.ireturn, 1) → W p l e rmX1_areHundredths s m #[.int p0, .int p1] below meth c H locs 0 0 (MQ below (qQi G (R) s.heap.size (fun (r : Int32) (u : Unit) => k r ) (fun (u : Unit) => R)) #[.int p0, .int p1] s 0 0 A) (F0 m pc ls [.int r]) := fun r  H locs ls pc hk hn hP hD hS hd => W.zret hx hb hr hn (fun t ht hW => q_ri (u := (() : Unit)) hAe hk hP hD hS ht) hS.2.2 hd
  have hl := lv_entry ([.int p0, .int p1]) (n := 2) (Nat.le_of_ble_eq_true rfl)
  rw [lg_entry_eq]
  generalize (lg_sl ([.int p0, .int p1]) ++ List.replicate (2 - (lg_sl ([.int p0, .int p1])).length) Slot.unset).toArray = ls at hl ⊢
  have hl : lv_has ls 2 [(0, .int p0), (1, .int p1)] := hl
  unfold wX1_areHundredths at h
  show W p l e rmX1_areHundredths s m #[.int p0, .int p1] below meth c s.heap [] 0 0 _ _
  refine lv_iload_n hx hb dX1_areHundredths_0 rfl (lv_at hl 0 rfl) ?_
  refine lv_iconst (v := (0 : Int32)) hx hb dX1_areHundredths_1 (by decide) ?_
  refine lv_bipush (v := (100 : Int32)) hx hb dX1_areHundredths_2 (by decide) ?_
  refine qc_ni (As := [.int p0, .int (0 : Int32), .int (100 : Int32)]) (rest := []) ⟨hx, hb, hml, hown, hts⟩ (mX9_within l G _ _ _ p0 (0 : Int32) (100 : Int32)) ⟨va_cnB 3 hts gX1_areHundredths_X9_within_n27 rfl rfl rfl (hKn.2.1 _ (List.mem_of_getElem? (i := 16) rfl)) (hts _ lX1_areHundredths_nX9) (by decide +kernel) ⟨Nat.le_of_ble_eq_true rfl, Nat.le_of_ble_eq_true rfl⟩, (hts _ lX1_areHundredths_sX9_within), trivial⟩ hP hD hS hA hKn h rfl hl.1 rfl (Nat.le_of_ble_eq_true rfl) dX1_areHundredths_4 ⟨Nat.zero_le _, Nat.zero_le _⟩ (fun r1 _ H locs h hP hD hS => ?_)
  have hP : va_P G.1 vwCl (R) H := hP
  have hD : va_D A (R) := hD
  refine lv_if_eq (tgt := 24) hx hb dX1_areHundredths_7 (by decide) (fun c1 => ?_) (fun c1 => ?_)
  · have h := h.1 c1
    exact kX1_areHundredths_b24 hx hb hml hown hts hA hKn hret  _ _ _ h hP hD hS (lv_sub hl [] rfl)
  · have h := h.2 c1
    refine lv_iload_n hx hb dX1_areHundredths_10 rfl (lv_at hl 1 rfl) ?_
    refine lv_iload_n hx hb dX1_areHundredths_11 rfl (lv_at hl 0 rfl) ?_
    refine lv_bipush (v := (100 : Int32)) hx hb dX1_areHundredths_12 (by decide) ?_
    refine qc_ni (As := [.int p1, .int p0, .int (100 : Int32)]) (rest := []) ⟨hx, hb, hml, hown, hts⟩ (mX9_within l G _ _ _ p1 p0 (100 : Int32)) ⟨va_cnB 3 hts gX1_areHundredths_X9_within_n27 rfl rfl rfl (hKn.2.1 _ (List.mem_of_getElem? (i := 16) rfl)) (hts _ lX1_areHundredths_nX9) (by decide +kernel) ⟨Nat.le_of_ble_eq_true rfl, Nat.le_of_ble_eq_true rfl⟩, (hts _ lX1_areHundredths_sX9_within), trivial⟩ hP hD hS hA hKn h rfl hl.1 rfl (Nat.le_of_ble_eq_true rfl) dX1_areHundredths_14 ⟨Nat.zero_le _, Nat.zero_le _⟩ (fun r2 _ H locs h hP hD hS => ?_)
    have hP : va_P G.1 vwCl (R) H := hP
    have hD : va_D A (R) := hD
    refine lv_if_eq (tgt := 24) hx hb dX1_areHundredths_17 (by decide) (fun c1 => ?_) (fun c1 => ?_)
    · have h := h.1 c1
      exact kX1_areHundredths_b24 hx hb hml hown hts hA hKn hret  _ _ _ h hP hD hS (lv_sub hl [] rfl)
    · have h := h.2 c1
      refine lv_iconst (v := (1 : Int32)) hx hb dX1_areHundredths_20 (by decide) ?_
      refine lv_goto (tgt := 25) hx hb dX1_areHundredths_21 (by decide) ?_
      exact kX1_areHundredths_b25 hx hb hml hown hts hA hKn hret (1 : Int32) _ _ _ h hP hD hS (lv_sub hl [] rfl)
abbrev rmX1_add : Room := { frames := 2, cells := 0, slots := 0, locals := 43 }
theorem lX1_add_f19 : Cond.fieldLink RX1 19 "QuarryBlends$Contracts" "amount" "I" ∈ wsX1_add := by decide +kernel
theorem lX1_add_f9 : Cond.fieldLink RX1 9 "QuarryBlends$Contracts" "terms" "[I" ∈ wsX1_add := by decide +kernel
theorem lX1_add_nX9 : Cond.initialized RX9 ∈ wsX1_add := by decide +kernel
theorem lX1_add_sX9_within : Cond.static yX9_within ∈ wsX1_add := by decide +kernel
theorem iX1_add_X1 : ∀ w ∈ wsX10, w ∈ wsX1_add := by decide +kernel
set_option maxHeartbeats 4000000 in
set_option maxRecDepth 100000 in
theorem kX1_add_b40 {p : Program} {l : Launch} {e : Env} {s : State} {m : MethodId} {args : Array Value} {below : List Frame} {meth : Method} {c : Code} {G : qG} {A : Nat → Prop} {Qf : State → Prop} {R : va_W} {a : Nat → Nat} {k : Int32 → qS → Prop} (hx : p.tables.exec = Jvm.exec) (hb : c.code = cX1_add) (hml : c.maxLocals = 9) (hown : s.vm.findClass RX1 = some m.cls) (hts : ∀ w ∈ wsX1_add, w.before args s = true) (hA : ∀ q : Nat, s.heap.size ≤ q → A q) (hKn : qKn G A s s.heap) (hret : ∀ (r : Int32) (q : qS) (H : Heap) (locs : List Loc) (ls : Array Slot) (pc : Nat), k r q → va_P G.1 vwCl (wQ G a q ++ R) H → va_D A (wQ G a q ++ R) → va_S A s.heap H locs → decode cX1_add pc = .ok (.ireturn, 1) → W p l e rmX1_add s m args below meth c H locs 0 0 Qf (F0 m pc ls [.int r])) : ∀ (q : qS) (H : Heap) (locs : List Loc) (ls : Array Slot), wX1_add_b40 k q → va_P G.1 vwCl (wQ G a q ++ R) H → va_D A (wQ G a q ++ R) → va_S A s.heap H locs → lv_has ls 9 [] → W p l e rmX1_add s m args below meth c H locs 0 0 Qf (F0 m 40 ls []) := by
  intro q H locs ls h hP hD hS hl
  unfold wX1_add_b40 at h
  refine lv_bipush (v := (-2 : Int32)) hx hb dX1_add_40 (by decide) ?_
  exact hret _ _ _ _ _ _ h hP hD hS dX1_add_42
set_option maxHeartbeats 4000000 in
set_option maxRecDepth 100000 in
theorem mX1_add (l : Launch) (G : qG) (k : Int32 → qS → Prop) (R : va_W) (a : Nat → Nat) (q : qS) (sz : Nat) (p0 : Int32) (p1 : Int32) (p2 : Int32) (p3 : Int32) (p4 : Int32) (p5 : Int32) : Met l yX1_add wsX1_add rmX1_add (qPc G [.ref (a 16), .int p0, .int p1, .int p2, .int p3, .int p4, .int p5] (wQ G a q ++ R) sz (wX1_add k q p0 p1 p2 p3 p4 p5)) (qQi G (wQ G a q ++ R) sz (fun (r : Int32) (u : qS) => k r u) (fun (u : qS) => wQ G a u ++ R)) 0 0 (va_A (wQ G a q ++ R) sz) := by
  refine Met.ofW (cc := cX1_add) (maxL := 9) (ret := (some .int)) (by decide) rfl ?_
  intro p e s m args below meth c s₁ B hml hv
  obtain ⟨rfl, hsz, hP, hD0, hKn0, h⟩ := hv
  have hx := B.exec
  have hb := B.bytes
  have hr := B.returns
  have hts := atoms_spec (ws := wsX1_add) B.pre
  have hown : s.vm.findClass RX1 = some m.cls := findClass_of_methodNamed B.named
  have hlocks := B.notSynchronized
  subst hsz
  have hD := hD0.self (sz := s.heap.size)
  generalize hAe : va_A (wQ G a q ++ R) s.heap.size = A at hD hKn0 ⊢
  have hA : ∀ q : Nat, s.heap.size ≤ q → A q := fun q h => by rw [← hAe]; exact Or.inr h
  have hKn : qKn G A s s.heap := hKn0
  have hS : va_S A s.heap s.heap [] := va_S.rf
  have hret : ∀ (r : Int32) (q' : qS) (H : Heap) (locs : List Loc) (ls : Array Slot) (pc : Nat), k r q' → va_P G.1 vwCl (wQ G a q' ++ R) H → va_D A (wQ G a q' ++ R) → va_S A s.heap H locs → decode cX1_add pc = .ok (.ireturn, 1) → W p l e rmX1_add s m #[.ref (a 16), .int p0, .int p1, .int p2, .int p3, .int p4, .int p5] below meth c H locs 0 0 (MQ below (qQi G (wQ G a q ++ R) s.heap.size (fun (r : Int32) (u : qS) => k r u) (fun (u : qS) => wQ G a u ++ R)) #[.ref (a 16), .int p0, .int p1, .int p2, .int p3, .int p4, .int p5] s 0 0 A) (F0 m pc ls [.int r]) := fun r q' H locs ls pc hk hP hD hS hd => W.iret hx hb hr (fun t ht hW => q_ri (u := (q' : qS)) hAe hk hP hD hS ht) hS.2.2 hd
  have hl := lv_entry ([.ref (a 16), .int p0, .int p1, .int p2, .int p3, .int p4, .int p5]) (n := 9) (Nat.le_of_ble_eq_true rfl)
  rw [lg_entry_eq]
  generalize (lg_sl ([.ref (a 16), .int p0, .int p1, .int p2, .int p3, .int p4, .int p5]) ++ List.replicate (9 - (lg_sl ([.ref (a 16), .int p0, .int p1, .int p2, .int p3, .int p4, .int p5])).length) Slot.unset).toArray = ls at hl ⊢
  have hl : lv_has ls 9 [(0, .ref (a 16)), (1, .int p0), (2, .int p1), (3, .int p2), (4, .int p3), (5, .int p4), (6, .int p5)] := hl
  unfold wX1_add at h
  show W p l e rmX1_add s m #[.ref (a 16), .int p0, .int p1, .int p2, .int p3, .int p4, .int p5] below meth c s.heap [] 0 0 _ _
  refine lv_iload_n hx hb dX1_add_0 rfl (lv_at hl 1 rfl) ?_
  refine lv_iconst (v := (1 : Int32)) hx hb dX1_add_1 (by decide) ?_
  refine lv_sipush (v := (500 : Int32)) hx hb dX1_add_2 (by decide) ?_
  refine qc_ni (As := [.int p0, .int (1 : Int32), .int (500 : Int32)]) (rest := []) ⟨hx, hb, hml, hown, hts⟩ (mX9_within l G _ _ _ p0 (1 : Int32) (500 : Int32)) ⟨va_cnB 3 hts gX1_add_X9_within_n27 rfl rfl rfl (hKn.2.1 _ (List.mem_of_getElem? (i := 16) rfl)) (hts _ lX1_add_nX9) (by decide +kernel) ⟨Nat.le_of_ble_eq_true rfl, Nat.le_of_ble_eq_true rfl⟩, (hts _ lX1_add_sX9_within), trivial⟩ hP hD hS hA hKn h rfl hl.1 rfl (Nat.le_of_ble_eq_true rfl) dX1_add_5 ⟨Nat.zero_le _, Nat.zero_le _⟩ (fun r1 _ H locs h hP hD hS => ?_)
  have hP : va_P G.1 vwCl (wQ G a q ++ R) H := hP
  have hD : va_D A (wQ G a q ++ R) := hD
  refine lv_if_eq (tgt := 40) hx hb dX1_add_8 (by decide) (fun c1 => ?_) (fun c1 => ?_)
  · have h := h.1 c1
    exact kX1_add_b40 hx hb hml hown hts hA hKn hret q _ _ _ h hP hD hS (lv_sub hl [] rfl)
  · have h := h.2 c1
    refine lv_iload hx hb dX1_add_11 (lv_at hl 6 rfl) ?_
    refine lv_iconst (v := (0 : Int32)) hx hb dX1_add_13 (by decide) ?_
    refine lv_bipush (v := (99 : Int32)) hx hb dX1_add_14 (by decide) ?_
    refine qc_ni (As := [.int p5, .int (0 : Int32), .int (99 : Int32)]) (rest := []) ⟨hx, hb, hml, hown, hts⟩ (mX9_within l G _ _ _ p5 (0 : Int32) (99 : Int32)) ⟨va_cnB 3 hts gX1_add_X9_within_n27 rfl rfl rfl (hKn.2.1 _ (List.mem_of_getElem? (i := 16) rfl)) (hts _ lX1_add_nX9) (by decide +kernel) ⟨Nat.le_of_ble_eq_true rfl, Nat.le_of_ble_eq_true rfl⟩, (hts _ lX1_add_sX9_within), trivial⟩ hP hD hS hA hKn h rfl hl.1 rfl (Nat.le_of_ble_eq_true rfl) dX1_add_16 ⟨Nat.zero_le _, Nat.zero_le _⟩ (fun r2 _ H locs h hP hD hS => ?_)
    have hP : va_P G.1 vwCl (wQ G a q ++ R) H := hP
    have hD : va_D A (wQ G a q ++ R) := hD
    refine lv_if_eq (tgt := 40) hx hb dX1_add_19 (by decide) (fun c1 => ?_) (fun c1 => ?_)
    · have h := h.1 c1
      exact kX1_add_b40 hx hb hml hown hts hA hKn hret q _ _ _ h hP hD hS (lv_sub hl [] rfl)
    · have h := h.2 c1
      refine lv_iload_n hx hb dX1_add_22 rfl (lv_at hl 2 rfl) ?_
      refine lv_iload_n hx hb dX1_add_23 rfl (lv_at hl 3 rfl) ?_
      refine qc_si (As := [.int p1, .int p2]) (rest := []) ⟨hx, hb, hml, hown, hts⟩ (mX1_areHundredths l G _ _ _ p1 p2) (cwS 2 hts gX1_add_X1_areHundredths rfl rfl rfl (by decide +kernel) ⟨Nat.le_of_ble_eq_true rfl, Nat.le_of_ble_eq_true rfl⟩) hP hD hS hA hKn h rfl hl.1 rfl (Nat.le_of_ble_eq_true rfl) dX1_add_24 ⟨Nat.zero_le _, Nat.zero_le _⟩ (fun r3 _ H locs h hP hD hS => ?_)
      have hP : va_P G.1 vwCl (wQ G a q ++ R) H := hP
      have hD : va_D A (wQ G a q ++ R) := hD
      refine lv_if_eq (tgt := 40) hx hb dX1_add_27 (by decide) (fun c1 => ?_) (fun c1 => ?_)
      · have h := h.1 c1
        exact kX1_add_b40 hx hb hml hown hts hA hKn hret q _ _ _ h hP hD hS (lv_sub hl [] rfl)
      · have h := h.2 c1
        refine lv_iload hx hb dX1_add_30 (lv_at hl 4 rfl) ?_
        refine lv_iload hx hb dX1_add_32 (lv_at hl 5 rfl) ?_
        refine qc_si (As := [.int p3, .int p4]) (rest := []) ⟨hx, hb, hml, hown, hts⟩ (mX1_areHundredths l G _ _ _ p3 p4) (cwS 2 hts gX1_add_X1_areHundredths rfl rfl rfl (by decide +kernel) ⟨Nat.le_of_ble_eq_true rfl, Nat.le_of_ble_eq_true rfl⟩) hP hD hS hA hKn h rfl hl.1 rfl (Nat.le_of_ble_eq_true rfl) dX1_add_34 ⟨Nat.zero_le _, Nat.zero_le _⟩ (fun r4 _ H locs h hP hD hS => ?_)
        have hP : va_P G.1 vwCl (wQ G a q ++ R) H := hP
        have hD : va_D A (wQ G a q ++ R) := hD
        refine lv_if_ne (tgt := 43) hx hb dX1_add_37 (by decide) (fun c1 => ?_) (fun c1 => ?_)
        · have h := h.1 c1
          refine lv_aload_n hx hb dX1_add_43 rfl (lv_at hl 0 rfl) ?_
          refine va_get (D := G.1) (ci := 1) (v := .int (q 0 5)) (C := RX1) (T := TX1) (N := 2) hx hb hts iX1_add_X1 hown hKn.k hP 15 rfl rfl 1 (by decide) (hts _ lX1_add_f19) (fun _ h9 => h9) rfl dX1_add_44 ?_
          refine lv_topi (fun y5 ey5 => ?_)
          have h := h y5 ey5
          refine lv_istore (lv' := [(7, .int y5), (0, .ref (a 16)), (1, .int p0), (2, .int p1), (3, .int p2), (4, .int p3), (5, .int p4), (6, .int p5)]) hx hb dX1_add_47 hl (by decide) rfl (fun ls hl => ?_)
          refine lv_iload hx hb dX1_add_49 (lv_at hl 0 rfl) ?_
          refine lv_iconst (v := (0 : Int32)) hx hb dX1_add_51 (by decide) ?_
          refine lv_bipush (v := (11 : Int32)) hx hb dX1_add_52 (by decide) ?_
          refine qc_ni (As := [.int y5, .int (0 : Int32), .int (11 : Int32)]) (rest := []) ⟨hx, hb, hml, hown, hts⟩ (mX9_within l G _ _ _ y5 (0 : Int32) (11 : Int32)) ⟨va_cnB 3 hts gX1_add_X9_within_n27 rfl rfl rfl (hKn.2.1 _ (List.mem_of_getElem? (i := 16) rfl)) (hts _ lX1_add_nX9) (by decide +kernel) ⟨Nat.le_of_ble_eq_true rfl, Nat.le_of_ble_eq_true rfl⟩, (hts _ lX1_add_sX9_within), trivial⟩ hP hD hS hA hKn h rfl hl.1 rfl (Nat.le_of_ble_eq_true rfl) dX1_add_54 ⟨Nat.zero_le _, Nat.zero_le _⟩ (fun r6 _ H locs h hP hD hS => ?_)
          have hP : va_P G.1 vwCl (wQ G a q ++ R) H := hP
          have hD : va_D A (wQ G a q ++ R) := hD
          refine lv_if_ne (tgt := 63) hx hb dX1_add_57 (by decide) (fun c1 => ?_) (fun c1 => ?_)
          · have h := h.1 c1
            refine lv_iload hx hb dX1_add_63 (lv_at hl 0 rfl) ?_
            refine lv_bipush (v := (6 : Int32)) hx hb dX1_add_65 (by decide) ?_
            refine lv_imul hx hb dX1_add_67 ?_
            refine lv_topi (fun y7 ey7 => ?_)
            have h := h y7 ey7
            refine lv_istore (lv' := [(8, .int y7), (7, .int y5), (0, .ref (a 16)), (1, .int p0), (2, .int p1), (3, .int p2), (4, .int p3), (5, .int p4), (6, .int p5)]) hx hb dX1_add_68 hl (by decide) rfl (fun ls hl => ?_)
            refine lv_aload_n hx hb dX1_add_70 rfl (lv_at hl 2 rfl) ?_
            refine va_get (D := G.1) (ci := 1) (v := .ref (a 12)) (C := RX1) (T := TX1) (N := 2) hx hb hts iX1_add_X1 hown hKn.k hP 15 rfl rfl 0 (by decide) (hts _ lX1_add_f9) (fun _ h9 => h9) rfl dX1_add_71 ?_
            refine lv_iload hx hb dX1_add_74 (lv_at hl 0 rfl) ?_
            refine lv_iconst (v := (0 : Int32)) hx hb dX1_add_76 (by decide) ?_
            refine lv_iadd hx hb dX1_add_77 ?_
            refine lv_iload_n hx hb dX1_add_78 rfl (lv_at hl 3 rfl) ?_
            obtain ⟨hin, h⟩ := h
            refine va_iast hx hb hKn.k hP hD hS 16 0 rfl rfl hin dX1_add_79 (fun H locs hP hD hS => ?_)
            obtain ⟨q8, eq8⟩ : ∃ z : qS, z = up2 q 12 (Int32.toNatClampNeg (y7 + (0 : Int32))) p0 := ⟨_, rfl⟩
            have hP : va_P G.1 vwCl (wQ G a q8 ++ R) H := by rw [eq8]; exact hP
            have hD : va_D A (wQ G a q8 ++ R) := by rw [eq8]; exact hD
            have h := h q8 eq8
            refine lv_aload_n hx hb dX1_add_80 rfl (lv_at hl 2 rfl) ?_
            refine va_get (D := G.1) (ci := 1) (v := .ref (a 12)) (C := RX1) (T := TX1) (N := 2) hx hb hts iX1_add_X1 hown hKn.k hP 15 rfl rfl 0 (by decide) (hts _ lX1_add_f9) (fun _ h9 => h9) rfl dX1_add_81 ?_
            refine lv_iload hx hb dX1_add_84 (lv_at hl 0 rfl) ?_
            refine lv_iconst (v := (1 : Int32)) hx hb dX1_add_86 (by decide) ?_
            refine lv_iadd hx hb dX1_add_87 ?_
            refine lv_iload_n hx hb dX1_add_88 rfl (lv_at hl 4 rfl) ?_
            obtain ⟨hin, h⟩ := h
            refine va_iast hx hb hKn.k hP hD hS 16 0 rfl rfl hin dX1_add_89 (fun H locs hP hD hS => ?_)
            obtain ⟨q9, eq9⟩ : ∃ z : qS, z = up2 q8 12 (Int32.toNatClampNeg (y7 + (1 : Int32))) p1 := ⟨_, rfl⟩
            have hP : va_P G.1 vwCl (wQ G a q9 ++ R) H := by rw [eq9]; exact hP
            have hD : va_D A (wQ G a q9 ++ R) := by rw [eq9]; exact hD
            have h := h q9 eq9
            refine lv_aload_n hx hb dX1_add_90 rfl (lv_at hl 2 rfl) ?_
            refine va_get (D := G.1) (ci := 1) (v := .ref (a 12)) (C := RX1) (T := TX1) (N := 2) hx hb hts iX1_add_X1 hown hKn.k hP 15 rfl rfl 0 (by decide) (hts _ lX1_add_f9) (fun _ h9 => h9) rfl dX1_add_91 ?_
            refine lv_iload hx hb dX1_add_94 (lv_at hl 0 rfl) ?_
            refine lv_iconst (v := (2 : Int32)) hx hb dX1_add_96 (by decide) ?_
            refine lv_iadd hx hb dX1_add_97 ?_
            refine lv_iload_n hx hb dX1_add_98 rfl (lv_at hl 5 rfl) ?_
            obtain ⟨hin, h⟩ := h
            refine va_iast hx hb hKn.k hP hD hS 16 0 rfl rfl hin dX1_add_99 (fun H locs hP hD hS => ?_)
            obtain ⟨q10, eq10⟩ : ∃ z : qS, z = up2 q9 12 (Int32.toNatClampNeg (y7 + (2 : Int32))) p2 := ⟨_, rfl⟩
            have hP : va_P G.1 vwCl (wQ G a q10 ++ R) H := by rw [eq10]; exact hP
            have hD : va_D A (wQ G a q10 ++ R) := by rw [eq10]; exact hD
            have h := h q10 eq10
            refine lv_aload_n hx hb dX1_add_100 rfl (lv_at hl 2 rfl) ?_
            refine va_get (D := G.1) (ci := 1) (v := .ref (a 12)) (C := RX1) (T := TX1) (N := 2) hx hb hts iX1_add_X1 hown hKn.k hP 15 rfl rfl 0 (by decide) (hts _ lX1_add_f9) (fun _ h9 => h9) rfl dX1_add_101 ?_
            refine lv_iload hx hb dX1_add_104 (lv_at hl 0 rfl) ?_
            refine lv_iconst (v := (3 : Int32)) hx hb dX1_add_106 (by decide) ?_
            refine lv_iadd hx hb dX1_add_107 ?_
            refine lv_iload hx hb dX1_add_108 (lv_at hl 6 rfl) ?_
            obtain ⟨hin, h⟩ := h
            refine va_iast hx hb hKn.k hP hD hS 16 0 rfl rfl hin dX1_add_110 (fun H locs hP hD hS => ?_)
            obtain ⟨q11, eq11⟩ : ∃ z : qS, z = up2 q10 12 (Int32.toNatClampNeg (y7 + (3 : Int32))) p3 := ⟨_, rfl⟩
            have hP : va_P G.1 vwCl (wQ G a q11 ++ R) H := by rw [eq11]; exact hP
            have hD : va_D A (wQ G a q11 ++ R) := by rw [eq11]; exact hD
            have h := h q11 eq11
            refine lv_aload_n hx hb dX1_add_111 rfl (lv_at hl 2 rfl) ?_
            refine va_get (D := G.1) (ci := 1) (v := .ref (a 12)) (C := RX1) (T := TX1) (N := 2) hx hb hts iX1_add_X1 hown hKn.k hP 15 rfl rfl 0 (by decide) (hts _ lX1_add_f9) (fun _ h9 => h9) rfl dX1_add_112 ?_
            refine lv_iload hx hb dX1_add_115 (lv_at hl 0 rfl) ?_
            refine lv_iconst (v := (4 : Int32)) hx hb dX1_add_117 (by decide) ?_
            refine lv_iadd hx hb dX1_add_118 ?_
            refine lv_iload hx hb dX1_add_119 (lv_at hl 7 rfl) ?_
            obtain ⟨hin, h⟩ := h
            refine va_iast hx hb hKn.k hP hD hS 16 0 rfl rfl hin dX1_add_121 (fun H locs hP hD hS => ?_)
            obtain ⟨q12, eq12⟩ : ∃ z : qS, z = up2 q11 12 (Int32.toNatClampNeg (y7 + (4 : Int32))) p4 := ⟨_, rfl⟩
            have hP : va_P G.1 vwCl (wQ G a q12 ++ R) H := by rw [eq12]; exact hP
            have hD : va_D A (wQ G a q12 ++ R) := by rw [eq12]; exact hD
            have h := h q12 eq12
            refine lv_aload_n hx hb dX1_add_122 rfl (lv_at hl 2 rfl) ?_
            refine va_get (D := G.1) (ci := 1) (v := .ref (a 12)) (C := RX1) (T := TX1) (N := 2) hx hb hts iX1_add_X1 hown hKn.k hP 15 rfl rfl 0 (by decide) (hts _ lX1_add_f9) (fun _ h9 => h9) rfl dX1_add_123 ?_
            refine lv_iload hx hb dX1_add_126 (lv_at hl 0 rfl) ?_
            refine lv_iconst (v := (5 : Int32)) hx hb dX1_add_128 (by decide) ?_
            refine lv_iadd hx hb dX1_add_129 ?_
            refine lv_iload hx hb dX1_add_130 (lv_at hl 8 rfl) ?_
            obtain ⟨hin, h⟩ := h
            refine va_iast hx hb hKn.k hP hD hS 16 0 rfl rfl hin dX1_add_132 (fun H locs hP hD hS => ?_)
            obtain ⟨q13, eq13⟩ : ∃ z : qS, z = up2 q12 12 (Int32.toNatClampNeg (y7 + (5 : Int32))) p5 := ⟨_, rfl⟩
            have hP : va_P G.1 vwCl (wQ G a q13 ++ R) H := by rw [eq13]; exact hP
            have hD : va_D A (wQ G a q13 ++ R) := by rw [eq13]; exact hD
            have h := h q13 eq13
            refine lv_aload_n hx hb dX1_add_133 rfl (lv_at hl 2 rfl) ?_
            refine lv_dup hx hb dX1_add_134 rfl ?_
            refine va_get (D := G.1) (ci := 1) (v := .int (q13 0 5)) (C := RX1) (T := TX1) (N := 2) hx hb hts iX1_add_X1 hown hKn.k hP 15 rfl rfl 1 (by decide) (hts _ lX1_add_f19) (fun _ h9 => h9) rfl dX1_add_135 ?_
            refine lv_iconst (v := (1 : Int32)) hx hb dX1_add_138 (by decide) ?_
            refine lv_iadd hx hb dX1_add_139 ?_
            refine lv_topi (fun y14 ey14 => ?_)
            have h := h y14 ey14
            refine va_put (D := G.1) (ci := 1) (v := .int y14) (ty := .int) (C := RX1) (T := TX1) (N := 2) hx hb hts iX1_add_X1 tyX1 tyX1_ok nmX1 hown hKn.k hP hD hS 15 rfl rfl 1 (by decide) (hts _ lX1_add_f19) (fun _ h9 => h9) rfl (by decide +kernel) rfl rfl (Nat.le_of_ble_eq_true rfl) dX1_add_140 (fun H locs hP hD hS => ?_)
            obtain ⟨q15, eq15⟩ : ∃ z : qS, z = up2 q13 0 5 y14 := ⟨_, rfl⟩
            have hP : va_P G.1 vwCl (wQ G a q15 ++ R) H := by rw [eq15]; exact hP
            have hD : va_D A (wQ G a q15 ++ R) := by rw [eq15]; exact hD
            have h := h q15 eq15
            refine lv_iload hx hb dX1_add_143 (lv_at hl 1 rfl) ?_
            exact hret _ _ _ _ _ _ h hP hD hS dX1_add_145
          · have h := h.2 c1
            refine lv_bipush (v := (-4 : Int32)) hx hb dX1_add_60 (by decide) ?_
            exact hret _ _ _ _ _ _ h hP hD hS dX1_add_62
        · have h := h.2 c1
          exact kX1_add_b40 hx hb hml hown hts hA hKn hret q _ _ _ h hP hD hS (lv_sub hl [] rfl)
abbrev rmX1_dropOne : Room := { frames := 1, cells := 0, slots := 0, locals := 21 }
theorem lX1_dropOne_cmin : Cond.code Lib.Math.min.name Lib.Math.min.code 2 (some .int) ∈ wsX1_dropOne := by decide +kernel
theorem lX1_dropOne_f19 : Cond.fieldLink RX1 19 "QuarryBlends$Contracts" "amount" "I" ∈ wsX1_dropOne := by decide +kernel
theorem lX1_dropOne_f9 : Cond.fieldLink RX1 9 "QuarryBlends$Contracts" "terms" "[I" ∈ wsX1_dropOne := by decide +kernel
theorem lX1_dropOne_ia : Cond.initialized "java/lang/System" ∈ wsX1_dropOne := by decide +kernel
theorem lX1_dropOne_im : Cond.initialized "java/lang/Math" ∈ wsX1_dropOne := by decide +kernel
theorem lX1_dropOne_m35 : Cond.methodLink RX1 35 Lib.Math.min.name ∈ wsX1_dropOne := by decide +kernel
theorem lX1_dropOne_m41 : Cond.methodLink RX1 41 arraycopyName ∈ wsX1_dropOne := by decide +kernel
theorem lX1_dropOne_na : Cond.native arraycopyName ∈ wsX1_dropOne := by decide +kernel
theorem lX1_dropOne_sa : Cond.static arraycopyName ∈ wsX1_dropOne := by decide +kernel
theorem lX1_dropOne_smin : Cond.static Lib.Math.min.name ∈ wsX1_dropOne := by decide +kernel
theorem iX1_dropOne_X1 : ∀ w ∈ wsX10, w ∈ wsX1_dropOne := by decide +kernel
set_option maxHeartbeats 4000000 in
set_option maxRecDepth 100000 in
theorem kX1_dropOne_b53 {p : Program} {l : Launch} {e : Env} {s : State} {m : MethodId} {args : Array Value} {below : List Frame} {meth : Method} {c : Code} {G : qG} {A : Nat → Prop} {Qf : State → Prop} {R : va_W} {a : Nat → Nat} {k : Int32 → qS → Prop} (hx : p.tables.exec = Jvm.exec) (hb : c.code = cX1_dropOne) (hml : c.maxLocals = 4) (hown : s.vm.findClass RX1 = some m.cls) (hts : ∀ w ∈ wsX1_dropOne, w.before args s = true) (hA : ∀ q : Nat, s.heap.size ≤ q → A q) (hKn : qKn G A s s.heap) (hret : ∀ (r : Int32) (q : qS) (H : Heap) (locs : List Loc) (ls : Array Slot) (pc : Nat), k r q → va_P G.1 vwCl (wQ G a q ++ R) H → va_D A (wQ G a q ++ R) → va_S A s.heap H locs → decode cX1_dropOne pc = .ok (.ireturn, 1) → W p l e rmX1_dropOne s m args below meth c H locs 0 0 Qf (F0 m pc ls [.int r])) : ∀ (q : qS) (H : Heap) (locs : List Loc) (ls : Array Slot), wX1_dropOne_b53 k q → va_P G.1 vwCl (wQ G a q ++ R) H → va_D A (wQ G a q ++ R) → va_S A s.heap H locs → lv_has ls 4 [(0, .ref (a 16))] → W p l e rmX1_dropOne s m args below meth c H locs 0 0 Qf (F0 m 53 ls []) := by
  intro q H locs ls h hP hD hS hl
  unfold wX1_dropOne_b53 at h
  refine lv_aload_n hx hb dX1_dropOne_53 rfl (lv_at hl 0 rfl) ?_
  refine lv_dup hx hb dX1_dropOne_54 rfl ?_
  refine va_get (D := G.1) (ci := 1) (v := .int (q 0 5)) (C := RX1) (T := TX1) (N := 2) hx hb hts iX1_dropOne_X1 hown hKn.k hP 15 rfl rfl 1 (by decide) (hts _ lX1_dropOne_f19) (fun _ h9 => h9) rfl dX1_dropOne_55 ?_
  refine lv_iconst (v := (1 : Int32)) hx hb dX1_dropOne_58 (by decide) ?_
  refine lv_isub hx hb dX1_dropOne_59 ?_
  refine lv_topi (fun y1 ey1 => ?_)
  have h := h y1 ey1
  refine va_put (D := G.1) (ci := 1) (v := .int y1) (ty := .int) (C := RX1) (T := TX1) (N := 2) hx hb hts iX1_dropOne_X1 tyX1 tyX1_ok nmX1 hown hKn.k hP hD hS 15 rfl rfl 1 (by decide) (hts _ lX1_dropOne_f19) (fun _ h9 => h9) rfl (by decide +kernel) rfl rfl (Nat.le_of_ble_eq_true rfl) dX1_dropOne_60 (fun H locs hP hD hS => ?_)
  obtain ⟨q2, eq2⟩ : ∃ z : qS, z = up2 q 0 5 y1 := ⟨_, rfl⟩
  have hP : va_P G.1 vwCl (wQ G a q2 ++ R) H := by rw [eq2]; exact hP
  have hD : va_D A (wQ G a q2 ++ R) := by rw [eq2]; exact hD
  have h := h q2 eq2
  refine lv_aload_n hx hb dX1_dropOne_63 rfl (lv_at hl 0 rfl) ?_
  refine va_get (D := G.1) (ci := 1) (v := .int (q2 0 5)) (C := RX1) (T := TX1) (N := 2) hx hb hts iX1_dropOne_X1 hown hKn.k hP 15 rfl rfl 1 (by decide) (hts _ lX1_dropOne_f19) (fun _ h9 => h9) rfl dX1_dropOne_64 ?_
  exact hret _ _ _ _ _ _ h hP hD hS dX1_dropOne_67
set_option maxHeartbeats 4000000 in
set_option maxRecDepth 100000 in
theorem mX1_dropOne (l : Launch) (G : qG) (k : Int32 → qS → Prop) (R : va_W) (a : Nat → Nat) (q : qS) (sz : Nat) (p0 : Int32) : Met l yX1_dropOne wsX1_dropOne rmX1_dropOne (qPc G [.ref (a 16), .int p0] (wQ G a q ++ R) sz (wX1_dropOne k q p0)) (qQi G (wQ G a q ++ R) sz (fun (r : Int32) (u : qS) => k r u) (fun (u : qS) => wQ G a u ++ R)) 0 0 (va_A (wQ G a q ++ R) sz) := by
  refine Met.ofW (cc := cX1_dropOne) (maxL := 4) (ret := (some .int)) (by decide) rfl ?_
  intro p e s m args below meth c s₁ B hml hv
  obtain ⟨rfl, hsz, hP, hD0, hKn0, h⟩ := hv
  have hx := B.exec
  have hb := B.bytes
  have hr := B.returns
  have hts := atoms_spec (ws := wsX1_dropOne) B.pre
  have hown : s.vm.findClass RX1 = some m.cls := findClass_of_methodNamed B.named
  have hlocks := B.notSynchronized
  subst hsz
  have hD := hD0.self (sz := s.heap.size)
  generalize hAe : va_A (wQ G a q ++ R) s.heap.size = A at hD hKn0 ⊢
  have hA : ∀ q : Nat, s.heap.size ≤ q → A q := fun q h => by rw [← hAe]; exact Or.inr h
  have hKn : qKn G A s s.heap := hKn0
  have hS : va_S A s.heap s.heap [] := va_S.rf
  have hret : ∀ (r : Int32) (q' : qS) (H : Heap) (locs : List Loc) (ls : Array Slot) (pc : Nat), k r q' → va_P G.1 vwCl (wQ G a q' ++ R) H → va_D A (wQ G a q' ++ R) → va_S A s.heap H locs → decode cX1_dropOne pc = .ok (.ireturn, 1) → W p l e rmX1_dropOne s m #[.ref (a 16), .int p0] below meth c H locs 0 0 (MQ below (qQi G (wQ G a q ++ R) s.heap.size (fun (r : Int32) (u : qS) => k r u) (fun (u : qS) => wQ G a u ++ R)) #[.ref (a 16), .int p0] s 0 0 A) (F0 m pc ls [.int r]) := fun r q' H locs ls pc hk hP hD hS hd => W.iret hx hb hr (fun t ht hW => q_ri (u := (q' : qS)) hAe hk hP hD hS ht) hS.2.2 hd
  have hl := lv_entry ([.ref (a 16), .int p0]) (n := 4) (Nat.le_of_ble_eq_true rfl)
  rw [lg_entry_eq]
  generalize (lg_sl ([.ref (a 16), .int p0]) ++ List.replicate (4 - (lg_sl ([.ref (a 16), .int p0])).length) Slot.unset).toArray = ls at hl ⊢
  have hl : lv_has ls 4 [(0, .ref (a 16)), (1, .int p0)] := hl
  unfold wX1_dropOne at h
  show W p l e rmX1_dropOne s m #[.ref (a 16), .int p0] below meth c s.heap [] 0 0 _ _
  refine lv_aload_n hx hb dX1_dropOne_0 rfl (lv_at hl 0 rfl) ?_
  refine lv_iload_n hx hb dX1_dropOne_1 rfl (lv_at hl 1 rfl) ?_
  refine qc_vi (As := [.int p0]) (rest := []) ⟨hx, hb, hml, hown, hts⟩ (mX1_has l G _ _ a q _ p0) (cwV 1 hts gX1_dropOne_X1_has rfl rfl rfl (by decide +kernel) ⟨Nat.le_of_ble_eq_true rfl, Nat.le_of_ble_eq_true rfl⟩) hP hD hS hA hKn 15 1 rfl rfl rfl h rfl hl.1 rfl (Nat.le_of_ble_eq_true rfl) dX1_dropOne_2 ⟨Nat.zero_le _, Nat.zero_le _⟩ (fun r3 q4 H locs h hP hD hS => ?_)
  have hP : va_P G.1 vwCl (wQ G a q4 ++ R) H := hP
  have hD : va_D A (wQ G a q4 ++ R) := hD
  refine lv_if_ne (tgt := 10) hx hb dX1_dropOne_5 (by decide) (fun c1 => ?_) (fun c1 => ?_)
  · have h := h.1 c1
    refine lv_iload_n hx hb dX1_dropOne_10 rfl (lv_at hl 1 rfl) ?_
    refine lv_bipush (v := (6 : Int32)) hx hb dX1_dropOne_11 (by decide) ?_
    refine lv_imul hx hb dX1_dropOne_13 ?_
    refine lv_topi (fun y5 ey5 => ?_)
    have h := h y5 ey5
    refine lv_istore_n (lv' := [(2, .int y5), (0, .ref (a 16)), (1, .int p0)]) hx hb dX1_dropOne_14 rfl hl (by decide) rfl (fun ls hl => ?_)
    refine lv_aload_n hx hb dX1_dropOne_15 rfl (lv_at hl 1 rfl) ?_
    refine va_get (D := G.1) (ci := 1) (v := .int (q4 0 5)) (C := RX1) (T := TX1) (N := 2) hx hb hts iX1_dropOne_X1 hown hKn.k hP 15 rfl rfl 1 (by decide) (hts _ lX1_dropOne_f19) (fun _ h9 => h9) rfl dX1_dropOne_16 ?_
    refine lv_bipush (v := (12 : Int32)) hx hb dX1_dropOne_19 (by decide) ?_
    refine va_mmin hx hb (hml.trans hl.1.symm) hown (hts _ lX1_dropOne_m35) (hts _ lX1_dropOne_smin) (hts _ lX1_dropOne_im) (hts _ lX1_dropOne_cmin) (Nat.le_of_ble_eq_true rfl) (Nat.le_of_ble_eq_true rfl) (Nat.zero_le _) (Nat.zero_le _) dX1_dropOne_21 ?_
    refine lv_topi (fun y6 ey6 => ?_)
    have h := h y6 ey6
    refine lv_iconst (v := (1 : Int32)) hx hb dX1_dropOne_24 (by decide) ?_
    refine lv_isub hx hb dX1_dropOne_25 ?_
    refine lv_iload_n hx hb dX1_dropOne_26 rfl (lv_at hl 2 rfl) ?_
    refine lv_isub hx hb dX1_dropOne_27 ?_
    refine lv_bipush (v := (6 : Int32)) hx hb dX1_dropOne_28 (by decide) ?_
    refine lv_imul hx hb dX1_dropOne_30 ?_
    refine lv_topi (fun y7 ey7 => ?_)
    have h := h y7 ey7
    refine lv_istore_n (lv' := [(3, .int y7), (2, .int y5), (0, .ref (a 16)), (1, .int p0)]) hx hb dX1_dropOne_31 rfl hl (by decide) rfl (fun ls hl => ?_)
    refine lv_iload_n hx hb dX1_dropOne_32 rfl (lv_at hl 0 rfl) ?_
    refine lv_if_le (tgt := 53) hx hb dX1_dropOne_33 (by decide) (fun c1 => ?_) (fun c1 => ?_)
    · have h := h.1 c1
      exact kX1_dropOne_b53 hx hb hml hown hts hA hKn hret q4 _ _ _ h hP hD hS (lv_sub hl [2] rfl)
    · have h := h.2 c1
      refine lv_aload_n hx hb dX1_dropOne_36 rfl (lv_at hl 2 rfl) ?_
      refine va_get (D := G.1) (ci := 1) (v := .ref (a 12)) (C := RX1) (T := TX1) (N := 2) hx hb hts iX1_dropOne_X1 hown hKn.k hP 15 rfl rfl 0 (by decide) (hts _ lX1_dropOne_f9) (fun _ h9 => h9) rfl dX1_dropOne_37 ?_
      refine lv_iload_n hx hb dX1_dropOne_40 rfl (lv_at hl 1 rfl) ?_
      refine lv_bipush (v := (6 : Int32)) hx hb dX1_dropOne_41 (by decide) ?_
      refine lv_iadd hx hb dX1_dropOne_43 ?_
      refine lv_aload_n hx hb dX1_dropOne_44 rfl (lv_at hl 2 rfl) ?_
      refine va_get (D := G.1) (ci := 1) (v := .ref (a 12)) (C := RX1) (T := TX1) (N := 2) hx hb hts iX1_dropOne_X1 hown hKn.k hP 15 rfl rfl 0 (by decide) (hts _ lX1_dropOne_f9) (fun _ h9 => h9) rfl dX1_dropOne_45 ?_
      refine lv_iload_n hx hb dX1_dropOne_48 rfl (lv_at hl 1 rfl) ?_
      refine lv_iload_n hx hb dX1_dropOne_49 rfl (lv_at hl 0 rfl) ?_
      obtain ⟨ha1, ha2, ha3, ha4, ha5, h⟩ := h
      refine va_copyi hx hb (hml.trans hl.1.symm) hown (hts _ lX1_dropOne_m41) (hts _ lX1_dropOne_na) (hts _ lX1_dropOne_sa) (hts _ lX1_dropOne_ia) hKn.k hP hD hS 16 16 0 0 rfl rfl rfl rfl rfl ha1 ha2 ha3 ha4 ha5 (fun _ _ => rfl) (Nat.le_of_ble_eq_true rfl) (by decide +kernel) dX1_dropOne_50 (fun H locs hP hD hS => ?_)
      obtain ⟨q8, eq8⟩ : ∃ z : qS, z = upA q4 12 (va_cpy (q4 12) (q4 12) ((y5 + (6 : Int32))).toNatClampNeg (y5).toNatClampNeg (y7).toNatClampNeg) := ⟨_, rfl⟩
      have hP : va_P G.1 vwCl (wQ G a q8 ++ R) H := by rw [eq8]; exact hP
      have hD : va_D A (wQ G a q8 ++ R) := by rw [eq8]; exact hD
      have h := h q8 eq8
      exact kX1_dropOne_b53 hx hb hml hown hts hA hKn hret q8 _ _ _ h hP hD hS (lv_sub hl [2] rfl)
  · have h := h.2 c1
    refine lv_iconst (v := (-1 : Int32)) hx hb dX1_dropOne_8 (by decide) ?_
    exact hret _ _ _ _ _ _ h hP hD hS dX1_dropOne_9
abbrev rmX2_bring : Room := { frames := 1, cells := 0, slots := 0, locals := 22 }
theorem lX2_bring_f9 : Cond.fieldLink RX2 9 "QuarryBlends$Crusher" "uncrushed" "[I" ∈ wsX2_bring := by decide +kernel
theorem lX2_bring_nX9 : Cond.initialized RX9 ∈ wsX2_bring := by decide +kernel
theorem lX2_bring_sX9_within : Cond.static yX9_within ∈ wsX2_bring := by decide +kernel
theorem iX2_bring_X2 : ∀ w ∈ wsX20, w ∈ wsX2_bring := by decide +kernel
set_option maxHeartbeats 4000000 in
set_option maxRecDepth 100000 in
theorem kX2_bring_b20 {p : Program} {l : Launch} {e : Env} {s : State} {m : MethodId} {args : Array Value} {below : List Frame} {meth : Method} {c : Code} {G : qG} {A : Nat → Prop} {Qf : State → Prop} {R : va_W} {a : Nat → Nat} {k : qS → Prop} (hx : p.tables.exec = Jvm.exec) (hb : c.code = cX2_bring) (hml : c.maxLocals = 3) (hown : s.vm.findClass RX2 = some m.cls) (hts : ∀ w ∈ wsX2_bring, w.before args s = true) (hA : ∀ q : Nat, s.heap.size ≤ q → A q) (hKn : qKn G A s s.heap) (hret : ∀ (q : qS) (H : Heap) (locs : List Loc) (ls : Array Slot) (pc : Nat), k q → va_P G.1 vwCl (wQ G a q ++ R) H → va_D A (wQ G a q ++ R) → va_S A s.heap H locs → decode cX2_bring pc = .ok (.return_, 1) → W p l e rmX2_bring s m args below meth c H locs 0 0 Qf (F0 m pc ls [])) : ∀ (q : qS) (H : Heap) (locs : List Loc) (ls : Array Slot), wX2_bring_b20 k q → va_P G.1 vwCl (wQ G a q ++ R) H → va_D A (wQ G a q ++ R) → va_S A s.heap H locs → lv_has ls 3 [] → W p l e rmX2_bring s m args below meth c H locs 0 0 Qf (F0 m 20 ls []) := by
  intro q H locs ls h hP hD hS hl
  unfold wX2_bring_b20 at h
  exact hret _ _ _ _ _ h hP hD hS dX2_bring_20
set_option maxHeartbeats 4000000 in
set_option maxRecDepth 100000 in
theorem mX2_bring (l : Launch) (G : qG) (k : qS → Prop) (R : va_W) (a : Nat → Nat) (q : qS) (sz : Nat) (p0 : Int32) (p1 : Int32) : Met l yX2_bring wsX2_bring rmX2_bring (qPc G [.ref (a 15), .int p0, .int p1] (wQ G a q ++ R) sz (wX2_bring k q p0 p1)) (qQv G (wQ G a q ++ R) sz (fun (u : qS) => k u) (fun (u : qS) => wQ G a u ++ R)) 0 0 (va_A (wQ G a q ++ R) sz) := by
  refine Met.ofW (cc := cX2_bring) (maxL := 3) (ret := none) (by decide) rfl ?_
  intro p e s m args below meth c s₁ B hml hv
  obtain ⟨rfl, hsz, hP, hD0, hKn0, h⟩ := hv
  have hx := B.exec
  have hb := B.bytes
  have hr := B.returns
  have hts := atoms_spec (ws := wsX2_bring) B.pre
  have hown : s.vm.findClass RX2 = some m.cls := findClass_of_methodNamed B.named
  have hlocks := B.notSynchronized
  subst hsz
  have hD := hD0.self (sz := s.heap.size)
  generalize hAe : va_A (wQ G a q ++ R) s.heap.size = A at hD hKn0 ⊢
  have hA : ∀ q : Nat, s.heap.size ≤ q → A q := fun q h => by rw [← hAe]; exact Or.inr h
  have hKn : qKn G A s s.heap := hKn0
  have hS : va_S A s.heap s.heap [] := va_S.rf
  have hret : ∀ (q' : qS) (H : Heap) (locs : List Loc) (ls : Array Slot) (pc : Nat), k q' → va_P G.1 vwCl (wQ G a q' ++ R) H → va_D A (wQ G a q' ++ R) → va_S A s.heap H locs → decode cX2_bring pc = .ok (.return_, 1) → W p l e rmX2_bring s m #[.ref (a 15), .int p0, .int p1] below meth c H locs 0 0 (MQ below (qQv G (wQ G a q ++ R) s.heap.size (fun (u : qS) => k u) (fun (u : qS) => wQ G a u ++ R)) #[.ref (a 15), .int p0, .int p1] s 0 0 A) (F0 m pc ls []) := fun q' H locs ls pc hk hP hD hS hd => W.vret hx hb hr (fun t ht hW => q_rv (u := (q' : qS)) hAe hk hP hD hS ht) hS.2.2 hd
  have hl := lv_entry ([.ref (a 15), .int p0, .int p1]) (n := 3) (Nat.le_of_ble_eq_true rfl)
  rw [lg_entry_eq]
  generalize (lg_sl ([.ref (a 15), .int p0, .int p1]) ++ List.replicate (3 - (lg_sl ([.ref (a 15), .int p0, .int p1])).length) Slot.unset).toArray = ls at hl ⊢
  have hl : lv_has ls 3 [(0, .ref (a 15)), (1, .int p0), (2, .int p1)] := hl
  unfold wX2_bring at h
  show W p l e rmX2_bring s m #[.ref (a 15), .int p0, .int p1] below meth c s.heap [] 0 0 _ _
  refine lv_iload_n hx hb dX2_bring_0 rfl (lv_at hl 2 rfl) ?_
  refine lv_iconst (v := (1 : Int32)) hx hb dX2_bring_1 (by decide) ?_
  refine lv_bipush (v := (9 : Int32)) hx hb dX2_bring_2 (by decide) ?_
  refine qc_ni (As := [.int p1, .int (1 : Int32), .int (9 : Int32)]) (rest := []) ⟨hx, hb, hml, hown, hts⟩ (mX9_within l G _ _ _ p1 (1 : Int32) (9 : Int32)) ⟨va_cnB 3 hts gX2_bring_X9_within_n29 rfl rfl rfl (hKn.2.1 _ (List.mem_of_getElem? (i := 17) rfl)) (hts _ lX2_bring_nX9) (by decide +kernel) ⟨Nat.le_of_ble_eq_true rfl, Nat.le_of_ble_eq_true rfl⟩, (hts _ lX2_bring_sX9_within), trivial⟩ hP hD hS hA hKn h rfl hl.1 rfl (Nat.le_of_ble_eq_true rfl) dX2_bring_4 ⟨Nat.zero_le _, Nat.zero_le _⟩ (fun r1 _ H locs h hP hD hS => ?_)
  have hP : va_P G.1 vwCl (wQ G a q ++ R) H := hP
  have hD : va_D A (wQ G a q ++ R) := hD
  refine lv_if_eq (tgt := 20) hx hb dX2_bring_7 (by decide) (fun c1 => ?_) (fun c1 => ?_)
  · have h := h.1 c1
    exact kX2_bring_b20 hx hb hml hown hts hA hKn hret q _ _ _ h hP hD hS (lv_sub hl [] rfl)
  · have h := h.2 c1
    refine lv_aload_n hx hb dX2_bring_10 rfl (lv_at hl 0 rfl) ?_
    refine va_get (D := G.1) (ci := 2) (v := .ref (a 10)) (C := RX2) (T := TX2) (N := 4) hx hb hts iX2_bring_X2 hown hKn.k hP 12 rfl rfl 0 (by decide) (hts _ lX2_bring_f9) (fun _ h9 => h9) rfl dX2_bring_11 ?_
    refine lv_iload_n hx hb dX2_bring_14 rfl (lv_at hl 2 rfl) ?_
    refine lv_dup2_11 hx hb dX2_bring_15 rfl rfl ?_
    obtain ⟨hin, h⟩ := h
    refine va_iald hx hb hKn.k hP 13 0 rfl rfl hin dX2_bring_16 ?_
    refine lv_iload_n hx hb dX2_bring_17 rfl (lv_at hl 1 rfl) ?_
    refine lv_iadd hx hb dX2_bring_18 ?_
    refine lv_topi (fun y2 ey2 => ?_)
    have h := h y2 ey2
    obtain ⟨hin, h⟩ := h
    refine va_iast hx hb hKn.k hP hD hS 13 0 rfl rfl hin dX2_bring_19 (fun H locs hP hD hS => ?_)
    obtain ⟨q3, eq3⟩ : ∃ z : qS, z = up2 q 10 (Int32.toNatClampNeg p1) y2 := ⟨_, rfl⟩
    have hP : va_P G.1 vwCl (wQ G a q3 ++ R) H := by rw [eq3]; exact hP
    have hD : va_D A (wQ G a q3 ++ R) := by rw [eq3]; exact hD
    have h := h q3 eq3
    exact kX2_bring_b20 hx hb hml hown hts hA hKn hret q3 _ _ _ h hP hD hS (lv_sub hl [] rfl)
abbrev rmX2_uncrushedInAll : Room := { frames := 0, cells := 0, slots := 0, locals := 0 }
theorem lX2_uncrushedInAll_f9 : Cond.fieldLink RX2 9 "QuarryBlends$Crusher" "uncrushed" "[I" ∈ wsX2_uncrushedInAll := by decide +kernel
theorem iX2_uncrushedInAll_X2 : ∀ w ∈ wsX20, w ∈ wsX2_uncrushedInAll := by decide +kernel
set_option maxHeartbeats 4000000 in
set_option maxRecDepth 100000 in
theorem kX2_uncrushedInAll_b4 {p : Program} {l : Launch} {e : Env} {s : State} {m : MethodId} {args : Array Value} {below : List Frame} {meth : Method} {c : Code} {G : qG} {A : Nat → Prop} {Qf : State → Prop} {R : va_W} {a : Nat → Nat} {k : Int32 → qS → Prop} (hx : p.tables.exec = Jvm.exec) (hb : c.code = cX2_uncrushedInAll) (hml : c.maxLocals = 3) (hown : s.vm.findClass RX2 = some m.cls) (hts : ∀ w ∈ wsX2_uncrushedInAll, w.before args s = true) (hA : ∀ q : Nat, s.heap.size ≤ q → A q) (hKn : qKn G A s s.heap) (hret : ∀ (r : Int32) (q : qS) (H : Heap) (locs : List Loc) (ls : Array Slot) (pc : Nat), k r q → va_P G.1 vwCl (wQ G a q ++ R) H → va_D A (wQ G a q ++ R) → va_S A s.heap H locs → decode cX2_uncrushedInAll pc = .ok (.ireturn, 1) → W p l e rmX2_uncrushedInAll s m args below meth c H locs 0 0 Qf (F0 m pc ls [.int r])) : ∀ (n : Nat) (q : qS) (x1 : Int32) (x2 : Int32) (H : Heap) (locs : List Loc) (ls : Array Slot), wX2_uncrushedInAll_b4 k n q x1 x2 → va_P G.1 vwCl (wQ G a q ++ R) H → va_D A (wQ G a q ++ R) → va_S A s.heap H locs → lv_has ls 3 [(0, .ref (a 15)), (1, .int x1), (2, .int x2)] → W p l e rmX2_uncrushedInAll s m args below meth c H locs 0 0 Qf (F0 m 4 ls []) := by
  intro n
  induction n with
  | zero => intros; rename_i h _ _ _ _; exact h.elim
  | succ n ih =>
    intro q x1 x2 H locs ls h hP hD hS hl
    unfold wX2_uncrushedInAll_b4 at h
    refine lv_iload_n hx hb dX2_uncrushedInAll_4 rfl (lv_at hl 2 rfl) ?_
    refine lv_bipush (v := (9 : Int32)) hx hb dX2_uncrushedInAll_5 (by decide) ?_
    refine lv_icmp_gt (tgt := 25) hx hb dX2_uncrushedInAll_7 (by decide) (fun c1 => ?_) (fun c1 => ?_)
    · have h := h.1 c1
      refine lv_iload_n hx hb dX2_uncrushedInAll_25 rfl (lv_at hl 1 rfl) ?_
      exact hret _ _ _ _ _ _ h hP hD hS dX2_uncrushedInAll_26
    · have h := h.2 c1
      refine lv_iload_n hx hb dX2_uncrushedInAll_10 rfl (lv_at hl 1 rfl) ?_
      refine lv_aload_n hx hb dX2_uncrushedInAll_11 rfl (lv_at hl 0 rfl) ?_
      refine va_get (D := G.1) (ci := 2) (v := .ref (a 10)) (C := RX2) (T := TX2) (N := 4) hx hb hts iX2_uncrushedInAll_X2 hown hKn.k hP 12 rfl rfl 0 (by decide) (hts _ lX2_uncrushedInAll_f9) (fun _ h9 => h9) rfl dX2_uncrushedInAll_12 ?_
      refine lv_iload_n hx hb dX2_uncrushedInAll_15 rfl (lv_at hl 2 rfl) ?_
      obtain ⟨hin, h⟩ := h
      refine va_iald hx hb hKn.k hP 13 0 rfl rfl hin dX2_uncrushedInAll_16 ?_
      refine lv_iadd hx hb dX2_uncrushedInAll_17 ?_
      refine lv_topi (fun y1 ey1 => ?_)
      have h := h y1 ey1
      refine lv_istore_n (lv' := [(1, .int y1), (0, .ref (a 15)), (2, .int x2)]) hx hb dX2_uncrushedInAll_18 rfl hl (by decide) rfl (fun ls hl => ?_)
      obtain ⟨y2, ey2⟩ : ∃ z : Int32, z = x2 + (1 : Int32) := ⟨_, rfl⟩
      have h := h y2 ey2
      refine lv_iinc (v := y2) (lv' := [(2, .int y2), (1, .int y1), (0, .ref (a 15))]) hx hb dX2_uncrushedInAll_19 hl (k := 2) rfl (by rw [ey2]; rfl) (by decide) rfl (fun ls hl => ?_)
      refine lv_goto (tgt := 4) hx hb dX2_uncrushedInAll_22 (by decide) ?_
      exact ih q y1 y2 _ _ _ h hP hD hS (lv_sub hl [2, 1, 0] rfl)
set_option maxHeartbeats 4000000 in
set_option maxRecDepth 100000 in
theorem mX2_uncrushedInAll (l : Launch) (G : qG) (k : Int32 → qS → Prop) (R : va_W) (a : Nat → Nat) (q : qS) (sz : Nat) : Met l yX2_uncrushedInAll wsX2_uncrushedInAll rmX2_uncrushedInAll (qPc G [.ref (a 15)] (wQ G a q ++ R) sz (wX2_uncrushedInAll k q)) (qQi G (wQ G a q ++ R) sz (fun (r : Int32) (u : qS) => k r u) (fun (u : qS) => wQ G a u ++ R)) 0 0 (va_A (wQ G a q ++ R) sz) := by
  refine Met.ofW (cc := cX2_uncrushedInAll) (maxL := 3) (ret := (some .int)) (by decide) rfl ?_
  intro p e s m args below meth c s₁ B hml hv
  obtain ⟨rfl, hsz, hP, hD0, hKn0, h⟩ := hv
  have hx := B.exec
  have hb := B.bytes
  have hr := B.returns
  have hts := atoms_spec (ws := wsX2_uncrushedInAll) B.pre
  have hown : s.vm.findClass RX2 = some m.cls := findClass_of_methodNamed B.named
  have hlocks := B.notSynchronized
  subst hsz
  have hD := hD0.self (sz := s.heap.size)
  generalize hAe : va_A (wQ G a q ++ R) s.heap.size = A at hD hKn0 ⊢
  have hA : ∀ q : Nat, s.heap.size ≤ q → A q := fun q h => by rw [← hAe]; exact Or.inr h
  have hKn : qKn G A s s.heap := hKn0
  have hS : va_S A s.heap s.heap [] := va_S.rf
  have hret : ∀ (r : Int32) (q' : qS) (H : Heap) (locs : List Loc) (ls : Array Slot) (pc : Nat), k r q' → va_P G.1 vwCl (wQ G a q' ++ R) H → va_D A (wQ G a q' ++ R) → va_S A s.heap H locs → decode cX2_uncrushedInAll pc = .ok (.ireturn, 1) → W p l e rmX2_uncrushedInAll s m #[.ref (a 15)] below meth c H locs 0 0 (MQ below (qQi G (wQ G a q ++ R) s.heap.size (fun (r : Int32) (u : qS) => k r u) (fun (u : qS) => wQ G a u ++ R)) #[.ref (a 15)] s 0 0 A) (F0 m pc ls [.int r]) := fun r q' H locs ls pc hk hP hD hS hd => W.iret hx hb hr (fun t ht hW => q_ri (u := (q' : qS)) hAe hk hP hD hS ht) hS.2.2 hd
  have hl := lv_entry ([.ref (a 15)]) (n := 3) (Nat.le_of_ble_eq_true rfl)
  rw [lg_entry_eq]
  generalize (lg_sl ([.ref (a 15)]) ++ List.replicate (3 - (lg_sl ([.ref (a 15)])).length) Slot.unset).toArray = ls at hl ⊢
  have hl : lv_has ls 3 [(0, .ref (a 15))] := hl
  unfold wX2_uncrushedInAll at h
  show W p l e rmX2_uncrushedInAll s m #[.ref (a 15)] below meth c s.heap [] 0 0 _ _
  refine lv_iconst (v := (0 : Int32)) hx hb dX2_uncrushedInAll_0 (by decide) ?_
  refine lv_istore_n (lv' := [(1, .int (0 : Int32)), (0, .ref (a 15))]) hx hb dX2_uncrushedInAll_1 rfl hl (by decide) rfl (fun ls hl => ?_)
  refine lv_iconst (v := (1 : Int32)) hx hb dX2_uncrushedInAll_2 (by decide) ?_
  refine lv_istore_n (lv' := [(2, .int (1 : Int32)), (1, .int (0 : Int32)), (0, .ref (a 15))]) hx hb dX2_uncrushedInAll_3 rfl hl (by decide) rfl (fun ls hl => ?_)
  obtain ⟨n3, h⟩ := h
  exact kX2_uncrushedInAll_b4 hx hb hml hown hts hA hKn hret n3 q (0 : Int32) (1 : Int32) _ _ _ h hP hD hS (lv_sub hl [2, 1, 0] rfl)
abbrev rmX2_tonnesInAnHour : Room := { frames := 1, cells := 0, slots := 0, locals := 13 }
theorem lX2_tonnesInAnHour_cmax : Cond.code Lib.Math.max.name Lib.Math.max.code 2 (some .int) ∈ wsX2_tonnesInAnHour := by decide +kernel
theorem lX2_tonnesInAnHour_f22 : Cond.fieldLink RX2 22 "QuarryBlends$Crusher" "wear" "I" ∈ wsX2_tonnesInAnHour := by decide +kernel
theorem lX2_tonnesInAnHour_im : Cond.initialized "java/lang/Math" ∈ wsX2_tonnesInAnHour := by decide +kernel
theorem lX2_tonnesInAnHour_m33 : Cond.methodLink RX2 33 Lib.Math.max.name ∈ wsX2_tonnesInAnHour := by decide +kernel
theorem lX2_tonnesInAnHour_smax : Cond.static Lib.Math.max.name ∈ wsX2_tonnesInAnHour := by decide +kernel
theorem iX2_tonnesInAnHour_X2 : ∀ w ∈ wsX20, w ∈ wsX2_tonnesInAnHour := by decide +kernel
set_option maxHeartbeats 4000000 in
set_option maxRecDepth 100000 in
theorem mX2_tonnesInAnHour (l : Launch) (G : qG) (k : Int32 → qS → Prop) (R : va_W) (a : Nat → Nat) (q : qS) (sz : Nat) (p0 : Int32) : Met l yX2_tonnesInAnHour wsX2_tonnesInAnHour rmX2_tonnesInAnHour (qPc G [.ref (a 15), .int p0] (wQ G a q ++ R) sz (wX2_tonnesInAnHour k q p0)) (qQi G (wQ G a q ++ R) sz (fun (r : Int32) (u : qS) => k r u) (fun (u : qS) => wQ G a u ++ R)) 0 0 (va_A (wQ G a q ++ R) sz) := by
  refine Met.ofW (cc := cX2_tonnesInAnHour) (maxL := 2) (ret := (some .int)) (by decide) rfl ?_
  intro p e s m args below meth c s₁ B hml hv
  obtain ⟨rfl, hsz, hP, hD0, hKn0, h⟩ := hv
  have hx := B.exec
  have hb := B.bytes
  have hr := B.returns
  have hts := atoms_spec (ws := wsX2_tonnesInAnHour) B.pre
  have hown : s.vm.findClass RX2 = some m.cls := findClass_of_methodNamed B.named
  have hlocks := B.notSynchronized
  subst hsz
  have hD := hD0.self (sz := s.heap.size)
  generalize hAe : va_A (wQ G a q ++ R) s.heap.size = A at hD hKn0 ⊢
  have hA : ∀ q : Nat, s.heap.size ≤ q → A q := fun q h => by rw [← hAe]; exact Or.inr h
  have hKn : qKn G A s s.heap := hKn0
  have hS : va_S A s.heap s.heap [] := va_S.rf
  have hret : ∀ (r : Int32) (q' : qS) (H : Heap) (locs : List Loc) (ls : Array Slot) (pc : Nat), k r q' → va_P G.1 vwCl (wQ G a q' ++ R) H → va_D A (wQ G a q' ++ R) → va_S A s.heap H locs → decode cX2_tonnesInAnHour pc = .ok (.ireturn, 1) → W p l e rmX2_tonnesInAnHour s m #[.ref (a 15), .int p0] below meth c H locs 0 0 (MQ below (qQi G (wQ G a q ++ R) s.heap.size (fun (r : Int32) (u : qS) => k r u) (fun (u : qS) => wQ G a u ++ R)) #[.ref (a 15), .int p0] s 0 0 A) (F0 m pc ls [.int r]) := fun r q' H locs ls pc hk hP hD hS hd => W.iret hx hb hr (fun t ht hW => q_ri (u := (q' : qS)) hAe hk hP hD hS ht) hS.2.2 hd
  have hl := lv_entry ([.ref (a 15), .int p0]) (n := 2) (Nat.le_of_ble_eq_true rfl)
  rw [lg_entry_eq]
  generalize (lg_sl ([.ref (a 15), .int p0]) ++ List.replicate (2 - (lg_sl ([.ref (a 15), .int p0])).length) Slot.unset).toArray = ls at hl ⊢
  have hl : lv_has ls 2 [(0, .ref (a 15)), (1, .int p0)] := hl
  unfold wX2_tonnesInAnHour at h
  show W p l e rmX2_tonnesInAnHour s m #[.ref (a 15), .int p0] below meth c s.heap [] 0 0 _ _
  refine lv_iconst (v := (1 : Int32)) hx hb dX2_tonnesInAnHour_0 (by decide) ?_
  refine lv_iload_n hx hb dX2_tonnesInAnHour_1 rfl (lv_at hl 1 rfl) ?_
  refine lv_aload_n hx hb dX2_tonnesInAnHour_2 rfl (lv_at hl 0 rfl) ?_
  refine va_get (D := G.1) (ci := 2) (v := .int (q 0 6)) (C := RX2) (T := TX2) (N := 4) hx hb hts iX2_tonnesInAnHour_X2 hown hKn.k hP 12 rfl rfl 2 (by decide) (hts _ lX2_tonnesInAnHour_f22) (fun _ h9 => h9) rfl dX2_tonnesInAnHour_3 ?_
  refine lv_sipush (v := (1000 : Int32)) hx hb dX2_tonnesInAnHour_6 (by decide) ?_
  refine lv_idiv hx hb dX2_tonnesInAnHour_9 (by decide) ?_
  refine lv_isub hx hb dX2_tonnesInAnHour_10 ?_
  refine va_mmax hx hb (hml.trans hl.1.symm) hown (hts _ lX2_tonnesInAnHour_m33) (hts _ lX2_tonnesInAnHour_smax) (hts _ lX2_tonnesInAnHour_im) (hts _ lX2_tonnesInAnHour_cmax) (Nat.le_of_ble_eq_true rfl) (Nat.le_of_ble_eq_true rfl) (Nat.zero_le _) (Nat.zero_le _) dX2_tonnesInAnHour_11 ?_
  refine lv_topi (fun y1 ey1 => ?_)
  have h := h y1 ey1
  exact hret _ _ _ _ _ _ h hP hD hS dX2_tonnesInAnHour_14
abbrev rmX2_becomeAsNew : Room := { frames := 0, cells := 0, slots := 0, locals := 0 }
theorem lX2_becomeAsNew_f22 : Cond.fieldLink RX2 22 "QuarryBlends$Crusher" "wear" "I" ∈ wsX2_becomeAsNew := by decide +kernel
theorem iX2_becomeAsNew_X2 : ∀ w ∈ wsX20, w ∈ wsX2_becomeAsNew := by decide +kernel
set_option maxHeartbeats 4000000 in
set_option maxRecDepth 100000 in
theorem mX2_becomeAsNew (l : Launch) (G : qG) (k : Int32 → qS → Prop) (R : va_W) (a : Nat → Nat) (q : qS) (sz : Nat) : Met l yX2_becomeAsNew wsX2_becomeAsNew rmX2_becomeAsNew (qPc G [.ref (a 15)] (wQ G a q ++ R) sz (wX2_becomeAsNew k q)) (qQi G (wQ G a q ++ R) sz (fun (r : Int32) (u : qS) => k r u) (fun (u : qS) => wQ G a u ++ R)) 0 0 (va_A (wQ G a q ++ R) sz) := by
  refine Met.ofW (cc := cX2_becomeAsNew) (maxL := 2) (ret := (some .int)) (by decide) rfl ?_
  intro p e s m args below meth c s₁ B hml hv
  obtain ⟨rfl, hsz, hP, hD0, hKn0, h⟩ := hv
  have hx := B.exec
  have hb := B.bytes
  have hr := B.returns
  have hts := atoms_spec (ws := wsX2_becomeAsNew) B.pre
  have hown : s.vm.findClass RX2 = some m.cls := findClass_of_methodNamed B.named
  have hlocks := B.notSynchronized
  subst hsz
  have hD := hD0.self (sz := s.heap.size)
  generalize hAe : va_A (wQ G a q ++ R) s.heap.size = A at hD hKn0 ⊢
  have hA : ∀ q : Nat, s.heap.size ≤ q → A q := fun q h => by rw [← hAe]; exact Or.inr h
  have hKn : qKn G A s s.heap := hKn0
  have hS : va_S A s.heap s.heap [] := va_S.rf
  have hret : ∀ (r : Int32) (q' : qS) (H : Heap) (locs : List Loc) (ls : Array Slot) (pc : Nat), k r q' → va_P G.1 vwCl (wQ G a q' ++ R) H → va_D A (wQ G a q' ++ R) → va_S A s.heap H locs → decode cX2_becomeAsNew pc = .ok (.ireturn, 1) → W p l e rmX2_becomeAsNew s m #[.ref (a 15)] below meth c H locs 0 0 (MQ below (qQi G (wQ G a q ++ R) s.heap.size (fun (r : Int32) (u : qS) => k r u) (fun (u : qS) => wQ G a u ++ R)) #[.ref (a 15)] s 0 0 A) (F0 m pc ls [.int r]) := fun r q' H locs ls pc hk hP hD hS hd => W.iret hx hb hr (fun t ht hW => q_ri (u := (q' : qS)) hAe hk hP hD hS ht) hS.2.2 hd
  have hl := lv_entry ([.ref (a 15)]) (n := 2) (Nat.le_of_ble_eq_true rfl)
  rw [lg_entry_eq]
  generalize (lg_sl ([.ref (a 15)]) ++ List.replicate (2 - (lg_sl ([.ref (a 15)])).length) Slot.unset).toArray = ls at hl ⊢
  have hl : lv_has ls 2 [(0, .ref (a 15))] := hl
  unfold wX2_becomeAsNew at h
  show W p l e rmX2_becomeAsNew s m #[.ref (a 15)] below meth c s.heap [] 0 0 _ _
  refine lv_aload_n hx hb dX2_becomeAsNew_0 rfl (lv_at hl 0 rfl) ?_
  refine va_get (D := G.1) (ci := 2) (v := .int (q 0 6)) (C := RX2) (T := TX2) (N := 4) hx hb hts iX2_becomeAsNew_X2 hown hKn.k hP 12 rfl rfl 2 (by decide) (hts _ lX2_becomeAsNew_f22) (fun _ h9 => h9) rfl dX2_becomeAsNew_1 ?_
  refine lv_topi (fun y1 ey1 => ?_)
  have h := h y1 ey1
  refine lv_istore_n (lv' := [(1, .int y1), (0, .ref (a 15))]) hx hb dX2_becomeAsNew_4 rfl hl (by decide) rfl (fun ls hl => ?_)
  refine lv_aload_n hx hb dX2_becomeAsNew_5 rfl (lv_at hl 1 rfl) ?_
  refine lv_iconst (v := (0 : Int32)) hx hb dX2_becomeAsNew_6 (by decide) ?_
  refine va_put (D := G.1) (ci := 2) (v := .int (0 : Int32)) (ty := .int) (C := RX2) (T := TX2) (N := 4) hx hb hts iX2_becomeAsNew_X2 tyX2 tyX2_ok nmX2 hown hKn.k hP hD hS 12 rfl rfl 2 (by decide) (hts _ lX2_becomeAsNew_f22) (fun _ h9 => h9) rfl (by decide +kernel) rfl rfl (Nat.le_of_ble_eq_true rfl) dX2_becomeAsNew_7 (fun H locs hP hD hS => ?_)
  obtain ⟨q2, eq2⟩ : ∃ z : qS, z = up2 q 0 6 (0 : Int32) := ⟨_, rfl⟩
  have hP : va_P G.1 vwCl (wQ G a q2 ++ R) H := by rw [eq2]; exact hP
  have hD : va_D A (wQ G a q2 ++ R) := by rw [eq2]; exact hD
  have h := h q2 eq2
  refine lv_iload_n hx hb dX2_becomeAsNew_10 rfl (lv_at hl 0 rfl) ?_
  exact hret _ _ _ _ _ _ h hP hD hS dX2_becomeAsNew_11
abbrev rmX2_crush : Room := { frames := 1, cells := 0, slots := 0, locals := 22 }
theorem lX2_crush_f15 : Cond.fieldLink RX2 15 "QuarryBlends$Crusher" "bins" "[I" ∈ wsX2_crush := by decide +kernel
theorem lX2_crush_f22 : Cond.fieldLink RX2 22 "QuarryBlends$Crusher" "wear" "I" ∈ wsX2_crush := by decide +kernel
theorem lX2_crush_f26 : Cond.fieldLink RX2 26 "QuarryBlends$Crusher" "crushed" "I" ∈ wsX2_crush := by decide +kernel
theorem lX2_crush_f9 : Cond.fieldLink RX2 9 "QuarryBlends$Crusher" "uncrushed" "[I" ∈ wsX2_crush := by decide +kernel
theorem lX2_crush_nX9 : Cond.initialized RX9 ∈ wsX2_crush := by decide +kernel
theorem lX2_crush_sX9_within : Cond.static yX9_within ∈ wsX2_crush := by decide +kernel
theorem iX2_crush_X2 : ∀ w ∈ wsX20, w ∈ wsX2_crush := by decide +kernel
set_option maxHeartbeats 4000000 in
set_option maxRecDepth 100000 in
theorem mX2_crush (l : Launch) (G : qG) (k : qS → Prop) (R : va_W) (a : Nat → Nat) (q : qS) (sz : Nat) (p0 : Int32) (p1 : Int32) (p2 : Int32) : Met l yX2_crush wsX2_crush rmX2_crush (qPc G [.ref (a 15), .int p0, .int p1, .int p2] (wQ G a q ++ R) sz (wX2_crush k q p0 p1 p2)) (qQv G (wQ G a q ++ R) sz (fun (u : qS) => k u) (fun (u : qS) => wQ G a u ++ R)) 0 0 (va_A (wQ G a q ++ R) sz) := by
  refine Met.ofW (cc := cX2_crush) (maxL := 6) (ret := none) (by decide) rfl ?_
  intro p e s m args below meth c s₁ B hml hv
  obtain ⟨rfl, hsz, hP, hD0, hKn0, h⟩ := hv
  have hx := B.exec
  have hb := B.bytes
  have hr := B.returns
  have hts := atoms_spec (ws := wsX2_crush) B.pre
  have hown : s.vm.findClass RX2 = some m.cls := findClass_of_methodNamed B.named
  have hlocks := B.notSynchronized
  subst hsz
  have hD := hD0.self (sz := s.heap.size)
  generalize hAe : va_A (wQ G a q ++ R) s.heap.size = A at hD hKn0 ⊢
  have hA : ∀ q : Nat, s.heap.size ≤ q → A q := fun q h => by rw [← hAe]; exact Or.inr h
  have hKn : qKn G A s s.heap := hKn0
  have hS : va_S A s.heap s.heap [] := va_S.rf
  have hret : ∀ (q' : qS) (H : Heap) (locs : List Loc) (ls : Array Slot) (pc : Nat), k q' → va_P G.1 vwCl (wQ G a q' ++ R) H → va_D A (wQ G a q' ++ R) → va_S A s.heap H locs → decode cX2_crush pc = .ok (.return_, 1) → W p l e rmX2_crush s m #[.ref (a 15), .int p0, .int p1, .int p2] below meth c H locs 0 0 (MQ below (qQv G (wQ G a q ++ R) s.heap.size (fun (u : qS) => k u) (fun (u : qS) => wQ G a u ++ R)) #[.ref (a 15), .int p0, .int p1, .int p2] s 0 0 A) (F0 m pc ls []) := fun q' H locs ls pc hk hP hD hS hd => W.vret hx hb hr (fun t ht hW => q_rv (u := (q' : qS)) hAe hk hP hD hS ht) hS.2.2 hd
  have hl := lv_entry ([.ref (a 15), .int p0, .int p1, .int p2]) (n := 6) (Nat.le_of_ble_eq_true rfl)
  rw [lg_entry_eq]
  generalize (lg_sl ([.ref (a 15), .int p0, .int p1, .int p2]) ++ List.replicate (6 - (lg_sl ([.ref (a 15), .int p0, .int p1, .int p2])).length) Slot.unset).toArray = ls at hl ⊢
  have hl : lv_has ls 6 [(0, .ref (a 15)), (1, .int p0), (2, .int p1), (3, .int p2)] := hl
  unfold wX2_crush at h
  show W p l e rmX2_crush s m #[.ref (a 15), .int p0, .int p1, .int p2] below meth c s.heap [] 0 0 _ _
  refine lv_iload_n hx hb dX2_crush_0 rfl (lv_at hl 2 rfl) ?_
  refine lv_iconst (v := (1 : Int32)) hx hb dX2_crush_1 (by decide) ?_
  refine lv_bipush (v := (9 : Int32)) hx hb dX2_crush_2 (by decide) ?_
  refine qc_ni (As := [.int p1, .int (1 : Int32), .int (9 : Int32)]) (rest := []) ⟨hx, hb, hml, hown, hts⟩ (mX9_within l G _ _ _ p1 (1 : Int32) (9 : Int32)) ⟨va_cnB 3 hts gX2_crush_X9_within_n29 rfl rfl rfl (hKn.2.1 _ (List.mem_of_getElem? (i := 17) rfl)) (hts _ lX2_crush_nX9) (by decide +kernel) ⟨Nat.le_of_ble_eq_true rfl, Nat.le_of_ble_eq_true rfl⟩, (hts _ lX2_crush_sX9_within), trivial⟩ hP hD hS hA hKn h rfl hl.1 rfl (Nat.le_of_ble_eq_true rfl) dX2_crush_4 ⟨Nat.zero_le _, Nat.zero_le _⟩ (fun r1 _ H locs h hP hD hS => ?_)
  have hP : va_P G.1 vwCl (wQ G a q ++ R) H := hP
  have hD : va_D A (wQ G a q ++ R) := hD
  refine lv_if_ne (tgt := 11) hx hb dX2_crush_7 (by decide) (fun c1 => ?_) (fun c1 => ?_)
  · have h := h.1 c1
    refine lv_iload_n hx hb dX2_crush_11 rfl (lv_at hl 1 rfl) ?_
    refine lv_bipush (v := (10 : Int32)) hx hb dX2_crush_12 (by decide) ?_
    refine lv_iload_n hx hb dX2_crush_14 rfl (lv_at hl 3 rfl) ?_
    refine lv_isub hx hb dX2_crush_15 ?_
    refine lv_imul hx hb dX2_crush_16 ?_
    refine lv_bipush (v := (10 : Int32)) hx hb dX2_crush_17 (by decide) ?_
    refine lv_iload_n hx hb dX2_crush_19 rfl (lv_at hl 2 rfl) ?_
    refine lv_isub hx hb dX2_crush_20 ?_
    refine lv_imul hx hb dX2_crush_21 ?_
    refine lv_bipush (v := (100 : Int32)) hx hb dX2_crush_22 (by decide) ?_
    refine lv_idiv hx hb dX2_crush_24 (by decide) ?_
    refine lv_topi (fun y2 ey2 => ?_)
    have h := h y2 ey2
    refine lv_istore (lv' := [(4, .int y2), (0, .ref (a 15)), (1, .int p0), (2, .int p1), (3, .int p2)]) hx hb dX2_crush_25 hl (by decide) rfl (fun ls hl => ?_)
    refine lv_iload_n hx hb dX2_crush_27 rfl (lv_at hl 2 rfl) ?_
    refine lv_iload_n hx hb dX2_crush_28 rfl (lv_at hl 4 rfl) ?_
    refine lv_imul hx hb dX2_crush_29 ?_
    refine lv_iload_n hx hb dX2_crush_30 rfl (lv_at hl 3 rfl) ?_
    refine lv_imul hx hb dX2_crush_31 ?_
    refine lv_bipush (v := (100 : Int32)) hx hb dX2_crush_32 (by decide) ?_
    refine lv_idiv hx hb dX2_crush_34 (by decide) ?_
    refine lv_topi (fun y3 ey3 => ?_)
    have h := h y3 ey3
    refine lv_istore (lv' := [(5, .int y3), (4, .int y2), (0, .ref (a 15)), (1, .int p0), (2, .int p1), (3, .int p2)]) hx hb dX2_crush_35 hl (by decide) rfl (fun ls hl => ?_)
    refine lv_aload_n hx hb dX2_crush_37 rfl (lv_at hl 2 rfl) ?_
    refine va_get (D := G.1) (ci := 2) (v := .ref (a 10)) (C := RX2) (T := TX2) (N := 4) hx hb hts iX2_crush_X2 hown hKn.k hP 12 rfl rfl 0 (by decide) (hts _ lX2_crush_f9) (fun _ h9 => h9) rfl dX2_crush_38 ?_
    refine lv_iload_n hx hb dX2_crush_41 rfl (lv_at hl 4 rfl) ?_
    refine lv_dup2_11 hx hb dX2_crush_42 rfl rfl ?_
    obtain ⟨hin, h⟩ := h
    refine va_iald hx hb hKn.k hP 13 0 rfl rfl hin dX2_crush_43 ?_
    refine lv_iload_n hx hb dX2_crush_44 rfl (lv_at hl 3 rfl) ?_
    refine lv_isub hx hb dX2_crush_45 ?_
    refine lv_topi (fun y4 ey4 => ?_)
    have h := h y4 ey4
    obtain ⟨hin, h⟩ := h
    refine va_iast hx hb hKn.k hP hD hS 13 0 rfl rfl hin dX2_crush_46 (fun H locs hP hD hS => ?_)
    obtain ⟨q5, eq5⟩ : ∃ z : qS, z = up2 q 10 (Int32.toNatClampNeg p1) y4 := ⟨_, rfl⟩
    have hP : va_P G.1 vwCl (wQ G a q5 ++ R) H := by rw [eq5]; exact hP
    have hD : va_D A (wQ G a q5 ++ R) := by rw [eq5]; exact hD
    have h := h q5 eq5
    refine lv_aload_n hx hb dX2_crush_47 rfl (lv_at hl 2 rfl) ?_
    refine va_get (D := G.1) (ci := 2) (v := .ref (a 11)) (C := RX2) (T := TX2) (N := 4) hx hb hts iX2_crush_X2 hown hKn.k hP 12 rfl rfl 1 (by decide) (hts _ lX2_crush_f15) (fun _ h9 => h9) rfl dX2_crush_48 ?_
    refine lv_iconst (v := (0 : Int32)) hx hb dX2_crush_51 (by decide) ?_
    refine lv_dup2_11 hx hb dX2_crush_52 rfl rfl ?_
    refine va_iald hx hb hKn.k hP 14 0 rfl rfl (by unfold vp_in; decide) dX2_crush_53 ?_
    refine lv_iload hx hb dX2_crush_54 (lv_at hl 1 rfl) ?_
    refine lv_iadd hx hb dX2_crush_56 ?_
    refine lv_topi (fun y6 ey6 => ?_)
    have h := h y6 ey6
    refine va_iast hx hb hKn.k hP hD hS 14 0 rfl rfl (by unfold vp_in; decide) dX2_crush_57 (fun H locs hP hD hS => ?_)
    obtain ⟨q7, eq7⟩ : ∃ z : qS, z = up2 q5 11 0 y6 := ⟨_, rfl⟩
    have hP : va_P G.1 vwCl (wQ G a q7 ++ R) H := by rw [eq7]; exact hP
    have hD : va_D A (wQ G a q7 ++ R) := by rw [eq7]; exact hD
    have h := h q7 eq7
    refine lv_aload_n hx hb dX2_crush_58 rfl (lv_at hl 2 rfl) ?_
    refine va_get (D := G.1) (ci := 2) (v := .ref (a 11)) (C := RX2) (T := TX2) (N := 4) hx hb hts iX2_crush_X2 hown hKn.k hP 12 rfl rfl 1 (by decide) (hts _ lX2_crush_f15) (fun _ h9 => h9) rfl dX2_crush_59 ?_
    refine lv_iconst (v := (1 : Int32)) hx hb dX2_crush_62 (by decide) ?_
    refine lv_dup2_11 hx hb dX2_crush_63 rfl rfl ?_
    refine va_iald hx hb hKn.k hP 14 0 rfl rfl (by unfold vp_in; decide) dX2_crush_64 ?_
    refine lv_iload_n hx hb dX2_crush_65 rfl (lv_at hl 3 rfl) ?_
    refine lv_iload hx hb dX2_crush_66 (lv_at hl 1 rfl) ?_
    refine lv_isub hx hb dX2_crush_68 ?_
    refine lv_iload hx hb dX2_crush_69 (lv_at hl 0 rfl) ?_
    refine lv_isub hx hb dX2_crush_71 ?_
    refine lv_iadd hx hb dX2_crush_72 ?_
    refine lv_topi (fun y8 ey8 => ?_)
    have h := h y8 ey8
    refine va_iast hx hb hKn.k hP hD hS 14 0 rfl rfl (by unfold vp_in; decide) dX2_crush_73 (fun H locs hP hD hS => ?_)
    obtain ⟨q9, eq9⟩ : ∃ z : qS, z = up2 q7 11 1 y8 := ⟨_, rfl⟩
    have hP : va_P G.1 vwCl (wQ G a q9 ++ R) H := by rw [eq9]; exact hP
    have hD : va_D A (wQ G a q9 ++ R) := by rw [eq9]; exact hD
    have h := h q9 eq9
    refine lv_aload_n hx hb dX2_crush_74 rfl (lv_at hl 2 rfl) ?_
    refine va_get (D := G.1) (ci := 2) (v := .ref (a 11)) (C := RX2) (T := TX2) (N := 4) hx hb hts iX2_crush_X2 hown hKn.k hP 12 rfl rfl 1 (by decide) (hts _ lX2_crush_f15) (fun _ h9 => h9) rfl dX2_crush_75 ?_
    refine lv_iconst (v := (2 : Int32)) hx hb dX2_crush_78 (by decide) ?_
    refine lv_dup2_11 hx hb dX2_crush_79 rfl rfl ?_
    refine va_iald hx hb hKn.k hP 14 0 rfl rfl (by unfold vp_in; decide) dX2_crush_80 ?_
    refine lv_iload hx hb dX2_crush_81 (lv_at hl 0 rfl) ?_
    refine lv_iadd hx hb dX2_crush_83 ?_
    refine lv_topi (fun y10 ey10 => ?_)
    have h := h y10 ey10
    refine va_iast hx hb hKn.k hP hD hS 14 0 rfl rfl (by unfold vp_in; decide) dX2_crush_84 (fun H locs hP hD hS => ?_)
    obtain ⟨q11, eq11⟩ : ∃ z : qS, z = up2 q9 11 2 y10 := ⟨_, rfl⟩
    have hP : va_P G.1 vwCl (wQ G a q11 ++ R) H := by rw [eq11]; exact hP
    have hD : va_D A (wQ G a q11 ++ R) := by rw [eq11]; exact hD
    have h := h q11 eq11
    refine lv_aload_n hx hb dX2_crush_85 rfl (lv_at hl 2 rfl) ?_
    refine lv_dup hx hb dX2_crush_86 rfl ?_
    refine va_get (D := G.1) (ci := 2) (v := .int (q11 0 6)) (C := RX2) (T := TX2) (N := 4) hx hb hts iX2_crush_X2 hown hKn.k hP 12 rfl rfl 2 (by decide) (hts _ lX2_crush_f22) (fun _ h9 => h9) rfl dX2_crush_87 ?_
    refine lv_iload_n hx hb dX2_crush_90 rfl (lv_at hl 3 rfl) ?_
    refine lv_iload_n hx hb dX2_crush_91 rfl (lv_at hl 4 rfl) ?_
    refine lv_imul hx hb dX2_crush_92 ?_
    refine lv_iadd hx hb dX2_crush_93 ?_
    refine lv_topi (fun y12 ey12 => ?_)
    have h := h y12 ey12
    refine va_put (D := G.1) (ci := 2) (v := .int y12) (ty := .int) (C := RX2) (T := TX2) (N := 4) hx hb hts iX2_crush_X2 tyX2 tyX2_ok nmX2 hown hKn.k hP hD hS 12 rfl rfl 2 (by decide) (hts _ lX2_crush_f22) (fun _ h9 => h9) rfl (by decide +kernel) rfl rfl (Nat.le_of_ble_eq_true rfl) dX2_crush_94 (fun H locs hP hD hS => ?_)
    obtain ⟨q13, eq13⟩ : ∃ z : qS, z = up2 q11 0 6 y12 := ⟨_, rfl⟩
    have hP : va_P G.1 vwCl (wQ G a q13 ++ R) H := by rw [eq13]; exact hP
    have hD : va_D A (wQ G a q13 ++ R) := by rw [eq13]; exact hD
    have h := h q13 eq13
    refine lv_aload_n hx hb dX2_crush_97 rfl (lv_at hl 2 rfl) ?_
    refine lv_dup hx hb dX2_crush_98 rfl ?_
    refine va_get (D := G.1) (ci := 2) (v := .int (q13 0 7)) (C := RX2) (T := TX2) (N := 4) hx hb hts iX2_crush_X2 hown hKn.k hP 12 rfl rfl 3 (by decide) (hts _ lX2_crush_f26) (fun _ h9 => h9) rfl dX2_crush_99 ?_
    refine lv_iload_n hx hb dX2_crush_102 rfl (lv_at hl 3 rfl) ?_
    refine lv_iadd hx hb dX2_crush_103 ?_
    refine lv_topi (fun y14 ey14 => ?_)
    have h := h y14 ey14
    refine va_put (D := G.1) (ci := 2) (v := .int y14) (ty := .int) (C := RX2) (T := TX2) (N := 4) hx hb hts iX2_crush_X2 tyX2 tyX2_ok nmX2 hown hKn.k hP hD hS 12 rfl rfl 3 (by decide) (hts _ lX2_crush_f26) (fun _ h9 => h9) rfl (by decide +kernel) rfl rfl (Nat.le_of_ble_eq_true rfl) dX2_crush_104 (fun H locs hP hD hS => ?_)
    obtain ⟨q15, eq15⟩ : ∃ z : qS, z = up2 q13 0 7 y14 := ⟨_, rfl⟩
    have hP : va_P G.1 vwCl (wQ G a q15 ++ R) H := by rw [eq15]; exact hP
    have hD : va_D A (wQ G a q15 ++ R) := by rw [eq15]; exact hD
    have h := h q15 eq15
    exact hret _ _ _ _ _ h hP hD hS dX2_crush_107
  · have h := h.2 c1
    exact hret _ _ _ _ _ h hP hD hS dX2_crush_10
