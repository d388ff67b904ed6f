abbrev rmX10_trucksNeeded : Room := { frames := 1, cells := 0, slots := 0, locals := 22 }
theorem lX10_trucksNeeded_f7 : Cond.fieldLink RX10 7 "QuarryBlendsModel" "s" "[I" ∈ wsX10_trucksNeeded := by decide +kernel
theorem iX10_trucksNeeded_X10 : ∀ w ∈ wsX100, w ∈ wsX10_trucksNeeded := by decide +kernel
set_option maxHeartbeats 4000000 in
set_option maxRecDepth 100000 in
theorem kX10_trucksNeeded_b30 {p : Program} {l : Launch} {e : Env} {s : State} {m : MethodId} {args : Array Value} {below : List Frame} {meth : Method} {c : Code} {G : qG} {A : Nat → Prop} {Qf : State → Prop} {R : va_W} {a : Nat → Nat} {k : Int32 → qS → Prop} (hx : p.tables.exec = Jvm.exec) (hb : c.code = cX10_trucksNeeded) (hml : c.maxLocals = 3) (hown : s.vm.findClass RX10 = some m.cls) (hts : ∀ w ∈ wsX10_trucksNeeded, w.before args s = true) (hA : ∀ q : Nat, s.heap.size ≤ q → A q) (hKn : qKn G A s s.heap) (hret : ∀ (r : Int32) (q : qS) (H : Heap) (locs : List Loc) (ls : Array Slot) (pc : Nat), k r q → va_P G.1 vwCl (wM G a q ++ R) H → va_D A (wM G a q ++ R) → va_S A s.heap H locs → decode cX10_trucksNeeded pc = .ok (.ireturn, 1) → W p l e rmX10_trucksNeeded s m args below meth c H locs 0 0 Qf (F0 m pc ls [.int r])) {kb4 : qS → Int32 → Int32 → Prop} (hkb4 : ∀ (q : qS) (x1 : Int32) (x2 : Int32) (H : Heap) (locs : List Loc) (ls : Array Slot), kb4 q x1 x2 → va_P G.1 vwCl (wM G a q ++ R) H → va_D A (wM G a q ++ R) → va_S A s.heap H locs → lv_has ls 3 [(0, .ref (a 0)), (1, .int x1), (2, .int x2)] → W p l e rmX10_trucksNeeded s m args below meth c H locs 0 0 Qf (F0 m 4 ls [])) : ∀ (q : qS) (x2 : Int32) (z0 : Int32) (H : Heap) (locs : List Loc) (ls : Array Slot), wX10_trucksNeeded_b30 k kb4 q x2 z0 → va_P G.1 vwCl (wM G a q ++ R) H → va_D A (wM G a q ++ R) → va_S A s.heap H locs → lv_has ls 3 [(0, .ref (a 0)), (2, .int x2)] → W p l e rmX10_trucksNeeded s m args below meth c H locs 0 0 Qf (F0 m 30 ls [.int z0]) := by
  intro q x2 z0 H locs ls h hP hD hS hl
  unfold wX10_trucksNeeded_b30 at h
  refine lv_istore_n (lv' := [(1, .int z0), (0, .ref (a 0)), (2, .int x2)]) hx hb dX10_trucksNeeded_30 rfl hl (by decide) rfl (fun ls hl => ?_)
  obtain ⟨y1, ey1⟩ : ∃ z : Int32, z = x2 + (1 : Int32) := ⟨_, rfl⟩
  have h := h y1 ey1
  refine lv_iinc (v := y1) (lv' := [(2, .int y1), (1, .int z0), (0, .ref (a 0))]) hx hb dX10_trucksNeeded_31 hl (k := 2) rfl (by rw [ey1]; rfl) (by decide) rfl (fun ls hl => ?_)
  refine lv_goto (tgt := 4) hx hb dX10_trucksNeeded_34 (by decide) ?_
  exact hkb4 q z0 y1 _ _ _ h hP hD hS (lv_sub hl [2, 1, 0] rfl)
set_option maxHeartbeats 4000000 in
set_option maxRecDepth 100000 in
theorem kX10_trucksNeeded_b4 {p : Program} {l : Launch} {e : Env} {s : State} {m : MethodId} {args : Array Value} {below : List Frame} {meth : Method} {c : Code} {G : qG} {A : Nat → Prop} {Qf : State → Prop} {R : va_W} {a : Nat → Nat} {k : Int32 → qS → Prop} (hx : p.tables.exec = Jvm.exec) (hb : c.code = cX10_trucksNeeded) (hml : c.maxLocals = 3) (hown : s.vm.findClass RX10 = some m.cls) (hts : ∀ w ∈ wsX10_trucksNeeded, w.before args s = true) (hA : ∀ q : Nat, s.heap.size ≤ q → A q) (hKn : qKn G A s s.heap) (hret : ∀ (r : Int32) (q : qS) (H : Heap) (locs : List Loc) (ls : Array Slot) (pc : Nat), k r q → va_P G.1 vwCl (wM G a q ++ R) H → va_D A (wM G a q ++ R) → va_S A s.heap H locs → decode cX10_trucksNeeded pc = .ok (.ireturn, 1) → W p l e rmX10_trucksNeeded s m args below meth c H locs 0 0 Qf (F0 m pc ls [.int r])) : ∀ (n : Nat) (q : qS) (x1 : Int32) (x2 : Int32) (H : Heap) (locs : List Loc) (ls : Array Slot), wX10_trucksNeeded_b4 k n q x1 x2 → va_P G.1 vwCl (wM G a q ++ R) H → va_D A (wM G a q ++ R) → va_S A s.heap H locs → lv_has ls 3 [(0, .ref (a 0)), (1, .int x1), (2, .int x2)] → W p l e rmX10_trucksNeeded s m args below meth c H locs 0 0 Qf (F0 m 4 ls []) := by
  intro n
  induction n with
  | zero => intros; rename_i h _ _ _ _; exact h.elim
  | succ n ih =>
    intro q x1 x2 H locs ls h hP hD hS hl
    unfold wX10_trucksNeeded_b4 at h
    refine lv_iload_n hx hb dX10_trucksNeeded_4 rfl (lv_at hl 2 rfl) ?_
    refine lv_aload_n hx hb dX10_trucksNeeded_5 rfl (lv_at hl 0 rfl) ?_
    refine va_get (D := G.1) (ci := 10) (v := .ref (a 1)) (C := RX10) (T := TX10) (N := 15) hx hb hts iX10_trucksNeeded_X10 hown hKn.k hP 0 rfl rfl 1 (by decide) (hts _ lX10_trucksNeeded_f7) (fun _ h9 => h9) rfl dX10_trucksNeeded_6 ?_
    refine lv_iconst (v := (0 : Int32)) hx hb dX10_trucksNeeded_9 (by decide) ?_
    refine va_iald hx hb hKn.k hP 1 0 rfl rfl (by unfold vp_in; decide) dX10_trucksNeeded_10 ?_
    refine lv_icmp_ge (tgt := 37) hx hb dX10_trucksNeeded_11 (by decide) (fun c1 => ?_) (fun c1 => ?_)
    · have h := h.1 c1
      refine lv_iload_n hx hb dX10_trucksNeeded_37 rfl (lv_at hl 1 rfl) ?_
      exact hret _ _ _ _ _ _ h hP hD hS dX10_trucksNeeded_38
    · have h := h.2 c1
      refine lv_aload_n hx hb dX10_trucksNeeded_14 rfl (lv_at hl 0 rfl) ?_
      refine lv_iload_n hx hb dX10_trucksNeeded_15 rfl (lv_at hl 2 rfl) ?_
      refine lv_iconst (v := (0 : Int32)) hx hb dX10_trucksNeeded_16 (by decide) ?_
      refine qc_vi (As := [.int x2, .int (0 : Int32)]) (rest := []) ⟨hx, hb, hml, hown, hts⟩ (mX10_truckOf l G _ _ a q _ x2 (0 : Int32)) (cwV 2 hts gX10_trucksNeeded_X10_truckOf rfl rfl rfl (by decide +kernel) ⟨Nat.le_of_ble_eq_true rfl, Nat.le_of_ble_eq_true rfl⟩) hP hD hS hA hKn 0 10 rfl rfl rfl h rfl hl.1 rfl (Nat.le_of_ble_eq_true rfl) dX10_trucksNeeded_17 ⟨Nat.zero_le _, Nat.zero_le _⟩ (fun r2 q3 H locs h hP hD hS => ?_)
      have hP : va_P G.1 vwCl (wM G a q3 ++ R) H := hP
      have hD : va_D A (wM G a q3 ++ R) := hD
      refine lv_if_le (tgt := 29) hx hb dX10_trucksNeeded_20 (by decide) (fun c1 => ?_) (fun c1 => ?_)
      · have h := h.1 c1
        refine lv_iload_n hx hb dX10_trucksNeeded_29 rfl (lv_at hl 1 rfl) ?_
        exact kX10_trucksNeeded_b30 hx hb hml hown hts hA hKn hret ih q3 x2 x1 _ _ _ h hP hD hS (lv_sub hl [0, 2] rfl)
      · have h := h.2 c1
        refine lv_iload_n hx hb dX10_trucksNeeded_23 rfl (lv_at hl 2 rfl) ?_
        refine lv_iconst (v := (1 : Int32)) hx hb dX10_trucksNeeded_24 (by decide) ?_
        refine lv_iadd hx hb dX10_trucksNeeded_25 ?_
        refine lv_goto (tgt := 30) hx hb dX10_trucksNeeded_26 (by decide) ?_
        exact kX10_trucksNeeded_b30 hx hb hml hown hts hA hKn hret ih q3 x2 (x2 + (1 : Int32)) _ _ _ h hP hD hS (lv_sub hl [0, 2] rfl)
set_option maxHeartbeats 4000000 in
set_option maxRecDepth 100000 in
theorem mX10_trucksNeeded (l : Launch) (G : qG) (k : Int32 → qS → Prop) (R : va_W) (a : Nat → Nat) (q : qS) (sz : Nat) : Met l yX10_trucksNeeded wsX10_trucksNeeded rmX10_trucksNeeded (qPc G [.ref (a 0)] (wM G a q ++ R) sz (wX10_trucksNeeded k q)) (qQi G (wM G a q ++ R) sz (fun (r : Int32) (u : qS) => k r u) (fun (u : qS) => wM G a u ++ R)) 0 0 (va_A (wM G a q ++ R) sz) := by
  refine Met.ofW (cc := cX10_trucksNeeded) (maxL := 3) (ret := (some .int)) (by decide) rfl ?_
  intro p e s m args below meth c s₁ B hml hv
  obtain ⟨rfl, hsz, hP, hD0, hKn0, h⟩ := hv
  have hx := B.exec
  have hb := B.bytes
  have hr := B.returns
  have hts := atoms_spec (ws := wsX10_trucksNeeded) B.pre
  have hown : s.vm.findClass RX10 = some m.cls := findClass_of_methodNamed B.named
  have hlocks := B.notSynchronized
  subst hsz
  have hD := hD0.self (sz := s.heap.size)
  generalize hAe : va_A (wM G a q ++ R) s.heap.size = A at hD hKn0 ⊢
  have hA : ∀ q : Nat, s.heap.size ≤ q → A q := fun q h => by rw [← hAe]; exact Or.inr h
  have hKn : qKn G A s s.heap := hKn0
  have hS : va_S A s.heap s.heap [] := va_S.rf
  have hret : ∀ (r : Int32) (q' : qS) (H : Heap) (locs : List Loc) (ls : Array Slot) (pc : Nat), k r q' → va_P G.1 vwCl (wM G a q' ++ R) H → va_D A (wM G a q' ++ R) → va_S A s.heap H locs → decode cX10_trucksNeeded pc = .ok (.ireturn, 1) → W p l e rmX10_trucksNeeded s m #[.ref (a 0)] below meth c H locs 0 0 (MQ below (qQi G (wM G a q ++ R) s.heap.size (fun (r : Int32) (u : qS) => k r u) (fun (u : qS) => wM G a u ++ R)) #[.ref (a 0)] s 0 0 A) (F0 m pc ls [.int r]) := fun r q' H locs ls pc hk hP hD hS hd => W.iret hx hb hr (fun t ht hW => q_ri (u := (q' : qS)) hAe hk hP hD hS ht) hS.2.2 hd
  have hl := lv_entry ([.ref (a 0)]) (n := 3) (Nat.le_of_ble_eq_true rfl)
  rw [lg_entry_eq]
  generalize (lg_sl ([.ref (a 0)]) ++ List.replicate (3 - (lg_sl ([.ref (a 0)])).length) Slot.unset).toArray = ls at hl ⊢
  have hl : lv_has ls 3 [(0, .ref (a 0))] := hl
  unfold wX10_trucksNeeded at h
  show W p l e rmX10_trucksNeeded s m #[.ref (a 0)] below meth c s.heap [] 0 0 _ _
  refine lv_iconst (v := (0 : Int32)) hx hb dX10_trucksNeeded_0 (by decide) ?_
  refine lv_istore_n (lv' := [(1, .int (0 : Int32)), (0, .ref (a 0))]) hx hb dX10_trucksNeeded_1 rfl hl (by decide) rfl (fun ls hl => ?_)
  refine lv_iconst (v := (0 : Int32)) hx hb dX10_trucksNeeded_2 (by decide) ?_
  refine lv_istore_n (lv' := [(2, .int (0 : Int32)), (1, .int (0 : Int32)), (0, .ref (a 0))]) hx hb dX10_trucksNeeded_3 rfl hl (by decide) rfl (fun ls hl => ?_)
  obtain ⟨n4, h⟩ := h
  exact kX10_trucksNeeded_b4 hx hb hml hown hts hA hKn hret n4 q (0 : Int32) (0 : Int32) _ _ _ h hP hD hS (lv_sub hl [2, 1, 0] rfl)
abbrev rmX10_refusesSet : Room := { frames := 2, cells := 0, slots := 0, locals := 44 }
set_option maxHeartbeats 4000000 in
set_option maxRecDepth 100000 in
theorem kX10_refusesSet_b29 {p : Program} {l : Launch} {e : Env} {s : State} {m : MethodId} {args : Array Value} {below : List Frame} {meth : Method} {c : Code} {G : qG} {A : Nat → Prop} {Qf : State → Prop} {R : va_W} {a : Nat → Nat} {k : Int32 → qS → Prop} (hx : p.tables.exec = Jvm.exec) (hb : c.code = cX10_refusesSet) (hml : c.maxLocals = 3) (hown : s.vm.findClass RX10 = some m.cls) (hts : ∀ w ∈ wsX10_refusesSet, w.before args s = true) (hA : ∀ q : Nat, s.heap.size ≤ q → A q) (hKn : qKn G A s s.heap) (hret : ∀ (r : Int32) (q : qS) (H : Heap) (locs : List Loc) (ls : Array Slot) (pc : Nat), k r q → va_P G.1 vwCl (wM G a q ++ R) H → va_D A (wM G a q ++ R) → va_S A s.heap H locs → decode cX10_refusesSet pc = .ok (.ireturn, 1) → W p l e rmX10_refusesSet s m args below meth c H locs 0 0 Qf (F0 m pc ls [.int r])) : ∀ (q : qS) (z0 : Int32) (H : Heap) (locs : List Loc) (ls : Array Slot), wX10_refusesSet_b29 k q z0 → va_P G.1 vwCl (wM G a q ++ R) H → va_D A (wM G a q ++ R) → va_S A s.heap H locs → lv_has ls 3 [] → W p l e rmX10_refusesSet s m args below meth c H locs 0 0 Qf (F0 m 29 ls [.int z0]) := by
  intro q z0 H locs ls h hP hD hS hl
  unfold wX10_refusesSet_b29 at h
  exact hret _ _ _ _ _ _ h hP hD hS dX10_refusesSet_29
set_option maxHeartbeats 4000000 in
set_option maxRecDepth 100000 in
theorem kX10_refusesSet_b28 {p : Program} {l : Launch} {e : Env} {s : State} {m : MethodId} {args : Array Value} {below : List Frame} {meth : Method} {c : Code} {G : qG} {A : Nat → Prop} {Qf : State → Prop} {R : va_W} {a : Nat → Nat} {k : Int32 → qS → Prop} (hx : p.tables.exec = Jvm.exec) (hb : c.code = cX10_refusesSet) (hml : c.maxLocals = 3) (hown : s.vm.findClass RX10 = some m.cls) (hts : ∀ w ∈ wsX10_refusesSet, w.before args s = true) (hA : ∀ q : Nat, s.heap.size ≤ q → A q) (hKn : qKn G A s s.heap) (hret : ∀ (r : Int32) (q : qS) (H : Heap) (locs : List Loc) (ls : Array Slot) (pc : Nat), k r q → va_P G.1 vwCl (wM G a q ++ R) H → va_D A (wM G a q ++ R) → va_S A s.heap H locs → decode cX10_refusesSet pc = .ok (.ireturn, 1) → W p l e rmX10_refusesSet s m args below meth c H locs 0 0 Qf (F0 m pc ls [.int r])) : ∀ (q : qS) (H : Heap) (locs : List Loc) (ls : Array Slot), wX10_refusesSet_b28 k q → va_P G.1 vwCl (wM G a q ++ R) H → va_D A (wM G a q ++ R) → va_S A s.heap H locs → lv_has ls 3 [] → W p l e rmX10_refusesSet s m args below meth c H locs 0 0 Qf (F0 m 28 ls []) := by
  intro q H locs ls h hP hD hS hl
  unfold wX10_refusesSet_b28 at h
  refine lv_iconst (v := (0 : Int32)) hx hb dX10_refusesSet_28 (by decide) ?_
  exact kX10_refusesSet_b29 hx hb hml hown hts hA hKn hret q (0 : Int32) _ _ _ h hP hD hS (lv_sub hl [] rfl)
set_option maxHeartbeats 4000000 in
set_option maxRecDepth 100000 in
theorem mX10_refusesSet (l : Launch) (G : qG) (k : Int32 → qS → Prop) (R : va_W) (a : Nat → Nat) (q : qS) (sz : Nat) (p0 : Int32) (p1 : Int32) : Met l yX10_refusesSet wsX10_refusesSet rmX10_refusesSet (qPc G [.ref (a 0), .int p0, .int p1] (wM G a q ++ R) sz (wX10_refusesSet k q p0 p1)) (qQi G (wM G a q ++ R) sz (fun (r : Int32) (u : qS) => k r u) (fun (u : qS) => wM G a u ++ R)) 0 0 (va_A (wM G a q ++ R) sz) := by
  refine Met.ofW (cc := cX10_refusesSet) (maxL := 3) (ret := (some .int)) (by decide) rfl ?_
  intro p e s m args below meth c s₁ B hml hv
  obtain ⟨rfl, hsz, hP, hD0, hKn0, h⟩ := hv
  have hx := B.exec
  have hb := B.bytes
  have hr := B.returns
  have hts := atoms_spec (ws := wsX10_refusesSet) B.pre
  have hown : s.vm.findClass RX10 = some m.cls := findClass_of_methodNamed B.named
  have hlocks := B.notSynchronized
  subst hsz
  have hD := hD0.self (sz := s.heap.size)
  generalize hAe : va_A (wM G a q ++ R) s.heap.size = A at hD hKn0 ⊢
  have hA : ∀ q : Nat, s.heap.size ≤ q → A q := fun q h => by rw [← hAe]; exact Or.inr h
  have hKn : qKn G A s s.heap := hKn0
  have hS : va_S A s.heap s.heap [] := va_S.rf
  have hret : ∀ (r : Int32) (q' : qS) (H : Heap) (locs : List Loc) (ls : Array Slot) (pc : Nat), k r q' → va_P G.1 vwCl (wM G a q' ++ R) H → va_D A (wM G a q' ++ R) → va_S A s.heap H locs → decode cX10_refusesSet pc = .ok (.ireturn, 1) → W p l e rmX10_refusesSet s m #[.ref (a 0), .int p0, .int p1] below meth c H locs 0 0 (MQ below (qQi G (wM G a q ++ R) s.heap.size (fun (r : Int32) (u : qS) => k r u) (fun (u : qS) => wM G a u ++ R)) #[.ref (a 0), .int p0, .int p1] s 0 0 A) (F0 m pc ls [.int r]) := fun r q' H locs ls pc hk hP hD hS hd => W.iret hx hb hr (fun t ht hW => q_ri (u := (q' : qS)) hAe hk hP hD hS ht) hS.2.2 hd
  have hl := lv_entry ([.ref (a 0), .int p0, .int p1]) (n := 3) (Nat.le_of_ble_eq_true rfl)
  rw [lg_entry_eq]
  generalize (lg_sl ([.ref (a 0), .int p0, .int p1]) ++ List.replicate (3 - (lg_sl ([.ref (a 0), .int p0, .int p1])).length) Slot.unset).toArray = ls at hl ⊢
  have hl : lv_has ls 3 [(0, .ref (a 0)), (1, .int p0), (2, .int p1)] := hl
  unfold wX10_refusesSet at h
  show W p l e rmX10_refusesSet s m #[.ref (a 0), .int p0, .int p1] below meth c s.heap [] 0 0 _ _
  refine lv_iload_n hx hb dX10_refusesSet_0 rfl (lv_at hl 1 rfl) ?_
  refine lv_iload_n hx hb dX10_refusesSet_1 rfl (lv_at hl 2 rfl) ?_
  refine qc_si (As := [.int p0, .int p1]) (rest := []) ⟨hx, hb, hml, hown, hts⟩ (mX10_isSetting l G _ _ _ p0 p1) (cwS 2 hts gX10_refusesSet_X10_isSetting rfl rfl rfl (by decide +kernel) ⟨Nat.le_of_ble_eq_true rfl, Nat.le_of_ble_eq_true rfl⟩) hP hD hS hA hKn h rfl hl.1 rfl (Nat.le_of_ble_eq_true rfl) dX10_refusesSet_2 ⟨Nat.zero_le _, Nat.zero_le _⟩ (fun r1 _ H locs h hP hD hS => ?_)
  have hP : va_P G.1 vwCl (wM G a q ++ R) H := hP
  have hD : va_D A (wM G a q ++ R) := hD
  refine lv_if_ne (tgt := 11) hx hb dX10_refusesSet_5 (by decide) (fun c1 => ?_) (fun c1 => ?_)
  · have h := h.1 c1
    refine lv_iload_n hx hb dX10_refusesSet_11 rfl (lv_at hl 1 rfl) ?_
    refine lv_if_ne (tgt := 28) hx hb dX10_refusesSet_12 (by decide) (fun c1 => ?_) (fun c1 => ?_)
    · have h := h.1 c1
      exact kX10_refusesSet_b28 hx hb hml hown hts hA hKn hret q _ _ _ h hP hD hS (lv_sub hl [] rfl)
    · have h := h.2 c1
      refine lv_iload_n hx hb dX10_refusesSet_15 rfl (lv_at hl 2 rfl) ?_
      refine lv_aload_n hx hb dX10_refusesSet_16 rfl (lv_at hl 0 rfl) ?_
      refine qc_vi (As := []) (rest := [.int p1]) ⟨hx, hb, hml, hown, hts⟩ (mX10_trucksNeeded l G _ _ a q _ ) (cwV 0 hts gX10_refusesSet_X10_trucksNeeded rfl rfl rfl (by decide +kernel) ⟨Nat.le_of_ble_eq_true rfl, Nat.le_of_ble_eq_true rfl⟩) hP hD hS hA hKn 0 10 rfl rfl rfl h rfl hl.1 rfl (Nat.le_of_ble_eq_true rfl) dX10_refusesSet_17 ⟨Nat.zero_le _, Nat.zero_le _⟩ (fun r2 q3 H locs h hP hD hS => ?_)
      have hP : va_P G.1 vwCl (wM G a q3 ++ R) H := hP
      have hD : va_D A (wM G a q3 ++ R) := hD
      refine lv_icmp_ge (tgt := 28) hx hb dX10_refusesSet_20 (by decide) (fun c1 => ?_) (fun c1 => ?_)
      · have h := h.1 c1
        exact kX10_refusesSet_b28 hx hb hml hown hts hA hKn hret q3 _ _ _ h hP hD hS (lv_sub hl [] rfl)
      · have h := h.2 c1
        refine lv_bipush (v := (-5 : Int32)) hx hb dX10_refusesSet_23 (by decide) ?_
        refine lv_goto (tgt := 29) hx hb dX10_refusesSet_25 (by decide) ?_
        exact kX10_refusesSet_b29 hx hb hml hown hts hA hKn hret q3 (-5 : Int32) _ _ _ h hP hD hS (lv_sub hl [] rfl)
  · have h := h.2 c1
    refine lv_bipush (v := (-2 : Int32)) hx hb dX10_refusesSet_8 (by decide) ?_
    exact hret _ _ _ _ _ _ h hP hD hS dX10_refusesSet_10
abbrev rmX10_set : Room := { frames := 3, cells := 0, slots := 0, locals := 66 }
theorem lX10_set_f32 : Cond.fieldLink RX10 32 "QuarryBlendsModel" "thrown" "I" ∈ wsX10_set := by decide +kernel
theorem lX10_set_f7 : Cond.fieldLink RX10 7 "QuarryBlendsModel" "s" "[I" ∈ wsX10_set := by decide +kernel
theorem iX10_set_X10 : ∀ w ∈ wsX100, w ∈ wsX10_set := by decide +kernel
set_option maxHeartbeats 4000000 in
set_option maxRecDepth 100000 in
theorem mX10_set (l : Launch) (G : qG) (k : Int32 → qS → Prop) (R : va_W) (a : Nat → Nat) (q : qS) (sz : Nat) (p0 : Int32) (p1 : Int32) : Met l yX10_set wsX10_set rmX10_set (qPc G [.ref (a 0), .int p0, .int p1] (wM G a q ++ R) sz (wX10_set k q p0 p1)) (qQi G (wM G a q ++ R) sz (fun (r : Int32) (u : qS) => k r u) (fun (u : qS) => wM G a u ++ R)) 0 0 (va_A (wM G a q ++ R) sz) := by
  refine Met.ofW (cc := cX10_set) (maxL := 5) (ret := (some .int)) (by decide) rfl ?_
  intro p e s m args below meth c s₁ B hml hv
  obtain ⟨rfl, hsz, hP, hD0, hKn0, h⟩ := hv
  have hx := B.exec
  have hb := B.bytes
  have hr := B.returns
  have hts := atoms_spec (ws := wsX10_set) B.pre
  have hown : s.vm.findClass RX10 = some m.cls := findClass_of_methodNamed B.named
  have hlocks := B.notSynchronized
  subst hsz
  have hD := hD0.self (sz := s.heap.size)
  generalize hAe : va_A (wM G a q ++ R) s.heap.size = A at hD hKn0 ⊢
  have hA : ∀ q : Nat, s.heap.size ≤ q → A q := fun q h => by rw [← hAe]; exact Or.inr h
  have hKn : qKn G A s s.heap := hKn0
  have hS : va_S A s.heap s.heap [] := va_S.rf
  have hret : ∀ (r : Int32) (q' : qS) (H : Heap) (locs : List Loc) (ls : Array Slot) (pc : Nat), k r q' → va_P G.1 vwCl (wM G a q' ++ R) H → va_D A (wM G a q' ++ R) → va_S A s.heap H locs → decode cX10_set pc = .ok (.ireturn, 1) → W p l e rmX10_set s m #[.ref (a 0), .int p0, .int p1] below meth c H locs 0 0 (MQ below (qQi G (wM G a q ++ R) s.heap.size (fun (r : Int32) (u : qS) => k r u) (fun (u : qS) => wM G a u ++ R)) #[.ref (a 0), .int p0, .int p1] s 0 0 A) (F0 m pc ls [.int r]) := fun r q' H locs ls pc hk hP hD hS hd => W.iret hx hb hr (fun t ht hW => q_ri (u := (q' : qS)) hAe hk hP hD hS ht) hS.2.2 hd
  have hl := lv_entry ([.ref (a 0), .int p0, .int p1]) (n := 5) (Nat.le_of_ble_eq_true rfl)
  rw [lg_entry_eq]
  generalize (lg_sl ([.ref (a 0), .int p0, .int p1]) ++ List.replicate (5 - (lg_sl ([.ref (a 0), .int p0, .int p1])).length) Slot.unset).toArray = ls at hl ⊢
  have hl : lv_has ls 5 [(0, .ref (a 0)), (1, .int p0), (2, .int p1)] := hl
  unfold wX10_set at h
  show W p l e rmX10_set s m #[.ref (a 0), .int p0, .int p1] below meth c s.heap [] 0 0 _ _
  refine lv_aload_n hx hb dX10_set_0 rfl (lv_at hl 0 rfl) ?_
  refine lv_iconst (v := (0 : Int32)) hx hb dX10_set_1 (by decide) ?_
  refine va_put (D := G.1) (ci := 10) (v := .int (0 : Int32)) (ty := .int) (C := RX10) (T := TX10) (N := 15) hx hb hts iX10_set_X10 tyX10 tyX10_ok nmX10 hown hKn.k hP hD hS 0 rfl rfl 0 (by decide) (hts _ lX10_set_f32) (fun _ h9 => h9) rfl (by decide +kernel) rfl rfl (Nat.le_of_ble_eq_true rfl) dX10_set_2 (fun H locs hP hD hS => ?_)
  obtain ⟨q1, eq1⟩ : ∃ z : qS, z = up2 q 0 0 (0 : Int32) := ⟨_, rfl⟩
  have hP : va_P G.1 vwCl (wM G a q1 ++ R) H := by rw [eq1]; exact hP
  have hD : va_D A (wM G a q1 ++ R) := by rw [eq1]; exact hD
  have h := h q1 eq1
  refine lv_aload_n hx hb dX10_set_5 rfl (lv_at hl 0 rfl) ?_
  refine lv_iload_n hx hb dX10_set_6 rfl (lv_at hl 1 rfl) ?_
  refine lv_iload_n hx hb dX10_set_7 rfl (lv_at hl 2 rfl) ?_
  refine qc_vi (As := [.int p0, .int p1]) (rest := []) ⟨hx, hb, hml, hown, hts⟩ (mX10_refusesSet l G _ _ a q1 _ p0 p1) (cwV 2 hts gX10_set_X10_refusesSet rfl rfl rfl (by decide +kernel) ⟨Nat.le_of_ble_eq_true rfl, Nat.le_of_ble_eq_true rfl⟩) hP hD hS hA hKn 0 10 rfl rfl rfl h rfl hl.1 rfl (Nat.le_of_ble_eq_true rfl) dX10_set_8 ⟨Nat.zero_le _, Nat.zero_le _⟩ (fun r2 q3 H locs h hP hD hS => ?_)
  have hP : va_P G.1 vwCl (wM G a q3 ++ R) H := hP
  have hD : va_D A (wM G a q3 ++ R) := hD
  refine lv_istore_n (lv' := [(3, .int r2), (0, .ref (a 0)), (1, .int p0), (2, .int p1)]) hx hb dX10_set_11 rfl hl (by decide) rfl (fun ls hl => ?_)
  refine lv_iload_n hx hb dX10_set_12 rfl (lv_at hl 0 rfl) ?_
  refine lv_if_eq (tgt := 18) hx hb dX10_set_13 (by decide) (fun c1 => ?_) (fun c1 => ?_)
  · have h := h.1 c1
    refine lv_aload_n hx hb dX10_set_18 rfl (lv_at hl 1 rfl) ?_
    refine qc_vv (As := []) (rest := []) ⟨hx, hb, hml, hown, hts⟩ (mX10_records l G _ _ a q3 _ ) (cwV 0 hts gX10_set_X10_records rfl rfl rfl (by decide +kernel) ⟨Nat.le_of_ble_eq_true rfl, Nat.le_of_ble_eq_true rfl⟩) hP hD hS hA hKn 0 10 rfl rfl rfl h rfl hl.1 rfl (Nat.le_of_ble_eq_true rfl) dX10_set_19 ⟨Nat.zero_le _, Nat.zero_le _⟩ (fun q5 H locs h hP hD hS => ?_)
    have hP : va_P G.1 vwCl (wM G a q5 ++ R) H := hP
    have hD : va_D A (wM G a q5 ++ R) := hD
    refine lv_aload_n hx hb dX10_set_22 rfl (lv_at hl 1 rfl) ?_
    refine va_get (D := G.1) (ci := 10) (v := .ref (a 1)) (C := RX10) (T := TX10) (N := 15) hx hb hts iX10_set_X10 hown hKn.k hP 0 rfl rfl 1 (by decide) (hts _ lX10_set_f7) (fun _ h9 => h9) rfl dX10_set_23 ?_
    refine lv_iload_n hx hb dX10_set_26 rfl (lv_at hl 2 rfl) ?_
    obtain ⟨hin, h⟩ := h
    refine va_iald hx hb hKn.k hP 1 0 rfl rfl hin dX10_set_27 ?_
    refine lv_topi (fun y6 ey6 => ?_)
    have h := h y6 ey6
    refine lv_istore (lv' := [(4, .int y6), (3, .int r2), (0, .ref (a 0)), (1, .int p0), (2, .int p1)]) hx hb dX10_set_28 hl (by decide) rfl (fun ls hl => ?_)
    refine lv_aload_n hx hb dX10_set_30 rfl (lv_at hl 2 rfl) ?_
    refine va_get (D := G.1) (ci := 10) (v := .ref (a 1)) (C := RX10) (T := TX10) (N := 15) hx hb hts iX10_set_X10 hown hKn.k hP 0 rfl rfl 1 (by decide) (hts _ lX10_set_f7) (fun _ h9 => h9) rfl dX10_set_31 ?_
    refine lv_iload_n hx hb dX10_set_34 rfl (lv_at hl 3 rfl) ?_
    refine lv_iload_n hx hb dX10_set_35 rfl (lv_at hl 4 rfl) ?_
    obtain ⟨hin, h⟩ := h
    refine va_iast hx hb hKn.k hP hD hS 1 0 rfl rfl hin dX10_set_36 (fun H locs hP hD hS => ?_)
    obtain ⟨q7, eq7⟩ : ∃ z : qS, z = up2 q5 1 (Int32.toNatClampNeg p0) p1 := ⟨_, rfl⟩
    have hP : va_P G.1 vwCl (wM G a q7 ++ R) H := by rw [eq7]; exact hP
    have hD : va_D A (wM G a q7 ++ R) := by rw [eq7]; exact hD
    have h := h q7 eq7
    refine lv_iload hx hb dX10_set_37 (lv_at hl 0 rfl) ?_
    exact hret _ _ _ _ _ _ h hP hD hS dX10_set_39
  · have h := h.2 c1
    refine lv_iload_n hx hb dX10_set_16 rfl (lv_at hl 0 rfl) ?_
    exact hret _ _ _ _ _ _ h hP hD hS dX10_set_17
abbrev rmX10_refusesFace : Room := { frames := 1, cells := 0, slots := 0, locals := 22 }
theorem lX10_refusesFace_f7 : Cond.fieldLink RX10 7 "QuarryBlendsModel" "s" "[I" ∈ wsX10_refusesFace := by decide +kernel
theorem iX10_refusesFace_X10 : ∀ w ∈ wsX100, w ∈ wsX10_refusesFace := by decide +kernel
set_option maxHeartbeats 4000000 in
set_option maxRecDepth 100000 in
theorem kX10_refusesFace_b31 {p : Program} {l : Launch} {e : Env} {s : State} {m : MethodId} {args : Array Value} {below : List Frame} {meth : Method} {c : Code} {G : qG} {A : Nat → Prop} {Qf : State → Prop} {R : va_W} {a : Nat → Nat} {k : Int32 → qS → Prop} (hx : p.tables.exec = Jvm.exec) (hb : c.code = cX10_refusesFace) (hml : c.maxLocals = 4) (hown : s.vm.findClass RX10 = some m.cls) (hts : ∀ w ∈ wsX10_refusesFace, w.before args s = true) (hA : ∀ q : Nat, s.heap.size ≤ q → A q) (hKn : qKn G A s s.heap) (hret : ∀ (r : Int32) (q : qS) (H : Heap) (locs : List Loc) (ls : Array Slot) (pc : Nat), k r q → va_P G.1 vwCl (wM G a q ++ R) H → va_D A (wM G a q ++ R) → va_S A s.heap H locs → decode cX10_refusesFace pc = .ok (.ireturn, 1) → W p l e rmX10_refusesFace s m args below meth c H locs 0 0 Qf (F0 m pc ls [.int r])) : ∀ (q : qS) (H : Heap) (locs : List Loc) (ls : Array Slot), wX10_refusesFace_b31 k q → va_P G.1 vwCl (wM G a q ++ R) H → va_D A (wM G a q ++ R) → va_S A s.heap H locs → lv_has ls 4 [] → W p l e rmX10_refusesFace s m args below meth c H locs 0 0 Qf (F0 m 31 ls []) := by
  intro q H locs ls h hP hD hS hl
  unfold wX10_refusesFace_b31 at h
  refine lv_bipush (v := (-2 : Int32)) hx hb dX10_refusesFace_31 (by decide) ?_
  exact hret _ _ _ _ _ _ h hP hD hS dX10_refusesFace_33
set_option maxHeartbeats 4000000 in
set_option maxRecDepth 100000 in
theorem kX10_refusesFace_b52 {p : Program} {l : Launch} {e : Env} {s : State} {m : MethodId} {args : Array Value} {below : List Frame} {meth : Method} {c : Code} {G : qG} {A : Nat → Prop} {Qf : State → Prop} {R : va_W} {a : Nat → Nat} {k : Int32 → qS → Prop} (hx : p.tables.exec = Jvm.exec) (hb : c.code = cX10_refusesFace) (hml : c.maxLocals = 4) (hown : s.vm.findClass RX10 = some m.cls) (hts : ∀ w ∈ wsX10_refusesFace, w.before args s = true) (hA : ∀ q : Nat, s.heap.size ≤ q → A q) (hKn : qKn G A s s.heap) (hret : ∀ (r : Int32) (q : qS) (H : Heap) (locs : List Loc) (ls : Array Slot) (pc : Nat), k r q → va_P G.1 vwCl (wM G a q ++ R) H → va_D A (wM G a q ++ R) → va_S A s.heap H locs → decode cX10_refusesFace pc = .ok (.ireturn, 1) → W p l e rmX10_refusesFace s m args below meth c H locs 0 0 Qf (F0 m pc ls [.int r])) : ∀ (q : qS) (z0 : Int32) (H : Heap) (locs : List Loc) (ls : Array Slot), wX10_refusesFace_b52 k q z0 → va_P G.1 vwCl (wM G a q ++ R) H → va_D A (wM G a q ++ R) → va_S A s.heap H locs → lv_has ls 4 [] → W p l e rmX10_refusesFace s m args below meth c H locs 0 0 Qf (F0 m 52 ls [.int z0]) := by
  intro q z0 H locs ls h hP hD hS hl
  unfold wX10_refusesFace_b52 at h
  exact hret _ _ _ _ _ _ h hP hD hS dX10_refusesFace_52
set_option maxHeartbeats 4000000 in
set_option maxRecDepth 100000 in
theorem mX10_refusesFace (l : Launch) (G : qG) (k : Int32 → qS → Prop) (R : va_W) (a : Nat → Nat) (q : qS) (sz : Nat) (p0 : Int32) (p1 : Int32) (p2 : Int32) : Met l yX10_refusesFace wsX10_refusesFace rmX10_refusesFace (qPc G [.ref (a 0), .int p0, .int p1, .int p2] (wM G a q ++ R) sz (wX10_refusesFace k q p0 p1 p2)) (qQi G (wM G a q ++ R) sz (fun (r : Int32) (u : qS) => k r u) (fun (u : qS) => wM G a u ++ R)) 0 0 (va_A (wM G a q ++ R) sz) := by
  refine Met.ofW (cc := cX10_refusesFace) (maxL := 4) (ret := (some .int)) (by decide) rfl ?_
  intro p e s m args below meth c s₁ B hml hv
  obtain ⟨rfl, hsz, hP, hD0, hKn0, h⟩ := hv
  have hx := B.exec
  have hb := B.bytes
  have hr := B.returns
  have hts := atoms_spec (ws := wsX10_refusesFace) B.pre
  have hown : s.vm.findClass RX10 = some m.cls := findClass_of_methodNamed B.named
  have hlocks := B.notSynchronized
  subst hsz
  have hD := hD0.self (sz := s.heap.size)
  generalize hAe : va_A (wM G a q ++ R) s.heap.size = A at hD hKn0 ⊢
  have hA : ∀ q : Nat, s.heap.size ≤ q → A q := fun q h => by rw [← hAe]; exact Or.inr h
  have hKn : qKn G A s s.heap := hKn0
  have hS : va_S A s.heap s.heap [] := va_S.rf
  have hret : ∀ (r : Int32) (q' : qS) (H : Heap) (locs : List Loc) (ls : Array Slot) (pc : Nat), k r q' → va_P G.1 vwCl (wM G a q' ++ R) H → va_D A (wM G a q' ++ R) → va_S A s.heap H locs → decode cX10_refusesFace pc = .ok (.ireturn, 1) → W p l e rmX10_refusesFace s m #[.ref (a 0), .int p0, .int p1, .int p2] below meth c H locs 0 0 (MQ below (qQi G (wM G a q ++ R) s.heap.size (fun (r : Int32) (u : qS) => k r u) (fun (u : qS) => wM G a u ++ R)) #[.ref (a 0), .int p0, .int p1, .int p2] s 0 0 A) (F0 m pc ls [.int r]) := fun r q' H locs ls pc hk hP hD hS hd => W.iret hx hb hr (fun t ht hW => q_ri (u := (q' : qS)) hAe hk hP hD hS ht) hS.2.2 hd
  have hl := lv_entry ([.ref (a 0), .int p0, .int p1, .int p2]) (n := 4) (Nat.le_of_ble_eq_true rfl)
  rw [lg_entry_eq]
  generalize (lg_sl ([.ref (a 0), .int p0, .int p1, .int p2]) ++ List.replicate (4 - (lg_sl ([.ref (a 0), .int p0, .int p1, .int p2])).length) Slot.unset).toArray = ls at hl ⊢
  have hl : lv_has ls 4 [(0, .ref (a 0)), (1, .int p0), (2, .int p1), (3, .int p2)] := hl
  unfold wX10_refusesFace at h
  show W p l e rmX10_refusesFace s m #[.ref (a 0), .int p0, .int p1, .int p2] below meth c s.heap [] 0 0 _ _
  refine lv_iload_n hx hb dX10_refusesFace_0 rfl (lv_at hl 1 rfl) ?_
  refine lv_iconst (v := (1 : Int32)) hx hb dX10_refusesFace_1 (by decide) ?_
  refine lv_sipush (v := (9999 : Int32)) hx hb dX10_refusesFace_2 (by decide) ?_
  refine qc_si (As := [.int p0, .int (1 : Int32), .int (9999 : Int32)]) (rest := []) ⟨hx, hb, hml, hown, hts⟩ (mX10_in l G _ _ _ p0 (1 : Int32) (9999 : Int32)) (cwS 3 hts gX10_refusesFace_X10_in rfl rfl rfl (by decide +kernel) ⟨Nat.le_of_ble_eq_true rfl, Nat.le_of_ble_eq_true rfl⟩) hP hD hS hA hKn h rfl hl.1 rfl (Nat.le_of_ble_eq_true rfl) dX10_refusesFace_5 ⟨Nat.zero_le _, Nat.zero_le _⟩ (fun r1 _ H locs h hP hD hS => ?_)
  have hP : va_P G.1 vwCl (wM G a q ++ R) H := hP
  have hD : va_D A (wM G a q ++ R) := hD
  refine lv_if_eq (tgt := 31) hx hb dX10_refusesFace_8 (by decide) (fun c1 => ?_) (fun c1 => ?_)
  · have h := h.1 c1
    exact kX10_refusesFace_b31 hx hb hml hown hts hA hKn hret q _ _ _ h hP hD hS (lv_sub hl [] rfl)
  · have h := h.2 c1
    refine lv_iload_n hx hb dX10_refusesFace_11 rfl (lv_at hl 2 rfl) ?_
    refine lv_iconst (v := (1 : Int32)) hx hb dX10_refusesFace_12 (by decide) ?_
    refine lv_bipush (v := (9 : Int32)) hx hb dX10_refusesFace_13 (by decide) ?_
    refine qc_si (As := [.int p1, .int (1 : Int32), .int (9 : Int32)]) (rest := []) ⟨hx, hb, hml, hown, hts⟩ (mX10_in l G _ _ _ p1 (1 : Int32) (9 : Int32)) (cwS 3 hts gX10_refusesFace_X10_in rfl rfl rfl (by decide +kernel) ⟨Nat.le_of_ble_eq_true rfl, Nat.le_of_ble_eq_true rfl⟩) hP hD hS hA hKn h rfl hl.1 rfl (Nat.le_of_ble_eq_true rfl) dX10_refusesFace_15 ⟨Nat.zero_le _, Nat.zero_le _⟩ (fun r2 _ H locs h hP hD hS => ?_)
    have hP : va_P G.1 vwCl (wM G a q ++ R) H := hP
    have hD : va_D A (wM G a q ++ R) := hD
    refine lv_if_eq (tgt := 31) hx hb dX10_refusesFace_18 (by decide) (fun c1 => ?_) (fun c1 => ?_)
    · have h := h.1 c1
      exact kX10_refusesFace_b31 hx hb hml hown hts hA hKn hret q _ _ _ h hP hD hS (lv_sub hl [] rfl)
    · have h := h.2 c1
      refine lv_iload_n hx hb dX10_refusesFace_21 rfl (lv_at hl 3 rfl) ?_
      refine lv_iconst (v := (1 : Int32)) hx hb dX10_refusesFace_22 (by decide) ?_
      refine lv_bipush (v := (12 : Int32)) hx hb dX10_refusesFace_23 (by decide) ?_
      refine qc_si (As := [.int p2, .int (1 : Int32), .int (12 : Int32)]) (rest := []) ⟨hx, hb, hml, hown, hts⟩ (mX10_in l G _ _ _ p2 (1 : Int32) (12 : Int32)) (cwS 3 hts gX10_refusesFace_X10_in rfl rfl rfl (by decide +kernel) ⟨Nat.le_of_ble_eq_true rfl, Nat.le_of_ble_eq_true rfl⟩) hP hD hS hA hKn h rfl hl.1 rfl (Nat.le_of_ble_eq_true rfl) dX10_refusesFace_25 ⟨Nat.zero_le _, Nat.zero_le _⟩ (fun r3 _ H locs h hP hD hS => ?_)
      have hP : va_P G.1 vwCl (wM G a q ++ R) H := hP
      have hD : va_D A (wM G a q ++ R) := hD
      refine lv_if_ne (tgt := 34) hx hb dX10_refusesFace_28 (by decide) (fun c1 => ?_) (fun c1 => ?_)
      · have h := h.1 c1
        refine lv_aload_n hx hb dX10_refusesFace_34 rfl (lv_at hl 0 rfl) ?_
        refine va_get (D := G.1) (ci := 10) (v := .ref (a 1)) (C := RX10) (T := TX10) (N := 15) hx hb hts iX10_refusesFace_X10 hown hKn.k hP 0 rfl rfl 1 (by decide) (hts _ lX10_refusesFace_f7) (fun _ h9 => h9) rfl dX10_refusesFace_35 ?_
        refine lv_bipush (v := (7 : Int32)) hx hb dX10_refusesFace_38 (by decide) ?_
        refine va_iald hx hb hKn.k hP 1 0 rfl rfl (by unfold vp_in; decide) dX10_refusesFace_40 ?_
        refine lv_bipush (v := (8 : Int32)) hx hb dX10_refusesFace_41 (by decide) ?_
        refine lv_icmp_ne (tgt := 51) hx hb dX10_refusesFace_43 (by decide) (fun c1 => ?_) (fun c1 => ?_)
        · have h := h.1 c1
          refine lv_iconst (v := (0 : Int32)) hx hb dX10_refusesFace_51 (by decide) ?_
          exact kX10_refusesFace_b52 hx hb hml hown hts hA hKn hret q (0 : Int32) _ _ _ h hP hD hS (lv_sub hl [] rfl)
        · have h := h.2 c1
          refine lv_bipush (v := (-4 : Int32)) hx hb dX10_refusesFace_46 (by decide) ?_
          refine lv_goto (tgt := 52) hx hb dX10_refusesFace_48 (by decide) ?_
          exact kX10_refusesFace_b52 hx hb hml hown hts hA hKn hret q (-4 : Int32) _ _ _ h hP hD hS (lv_sub hl [] rfl)
      · have h := h.2 c1
        exact kX10_refusesFace_b31 hx hb hml hown hts hA hKn hret q _ _ _ h hP hD hS (lv_sub hl [] rfl)
abbrev rmX10_laysFace : Room := { frames := 0, cells := 0, slots := 0, locals := 0 }
theorem lX10_laysFace_f7 : Cond.fieldLink RX10 7 "QuarryBlendsModel" "s" "[I" ∈ wsX10_laysFace := by decide +kernel
theorem iX10_laysFace_X10 : ∀ w ∈ wsX100, w ∈ wsX10_laysFace := by decide +kernel
set_option maxHeartbeats 4000000 in
set_option maxRecDepth 100000 in
theorem mX10_laysFace (l : Launch) (G : qG) (k : Int32 → qS → Prop) (R : va_W) (a : Nat → Nat) (q : qS) (sz : Nat) (p0 : Int32) (p1 : Int32) (p2 : Int32) : Met l yX10_laysFace wsX10_laysFace rmX10_laysFace (qPc G [.ref (a 0), .int p0, .int p1, .int p2] (wM G a q ++ R) sz (wX10_laysFace k q p0 p1 p2)) (qQi G (wM G a q ++ R) sz (fun (r : Int32) (u : qS) => k r u) (fun (u : qS) => wM G a u ++ R)) 0 0 (va_A (wM G a q ++ R) sz) := by
  refine Met.ofW (cc := cX10_laysFace) (maxL := 5) (ret := (some .int)) (by decide) rfl ?_
  intro p e s m args below meth c s₁ B hml hv
  obtain ⟨rfl, hsz, hP, hD0, hKn0, h⟩ := hv
  have hx := B.exec
  have hb := B.bytes
  have hr := B.returns
  have hts := atoms_spec (ws := wsX10_laysFace) B.pre
  have hown : s.vm.findClass RX10 = some m.cls := findClass_of_methodNamed B.named
  have hlocks := B.notSynchronized
  subst hsz
  have hD := hD0.self (sz := s.heap.size)
  generalize hAe : va_A (wM G a q ++ R) s.heap.size = A at hD hKn0 ⊢
  have hA : ∀ q : Nat, s.heap.size ≤ q → A q := fun q h => by rw [← hAe]; exact Or.inr h
  have hKn : qKn G A s s.heap := hKn0
  have hS : va_S A s.heap s.heap [] := va_S.rf
  have hret : ∀ (r : Int32) (q' : qS) (H : Heap) (locs : List Loc) (ls : Array Slot) (pc : Nat), k r q' → va_P G.1 vwCl (wM G a q' ++ R) H → va_D A (wM G a q' ++ R) → va_S A s.heap H locs → decode cX10_laysFace pc = .ok (.ireturn, 1) → W p l e rmX10_laysFace s m #[.ref (a 0), .int p0, .int p1, .int p2] below meth c H locs 0 0 (MQ below (qQi G (wM G a q ++ R) s.heap.size (fun (r : Int32) (u : qS) => k r u) (fun (u : qS) => wM G a u ++ R)) #[.ref (a 0), .int p0, .int p1, .int p2] s 0 0 A) (F0 m pc ls [.int r]) := fun r q' H locs ls pc hk hP hD hS hd => W.iret hx hb hr (fun t ht hW => q_ri (u := (q' : qS)) hAe hk hP hD hS ht) hS.2.2 hd
  have hl := lv_entry ([.ref (a 0), .int p0, .int p1, .int p2]) (n := 5) (Nat.le_of_ble_eq_true rfl)
  rw [lg_entry_eq]
  generalize (lg_sl ([.ref (a 0), .int p0, .int p1, .int p2]) ++ List.replicate (5 - (lg_sl ([.ref (a 0), .int p0, .int p1, .int p2])).length) Slot.unset).toArray = ls at hl ⊢
  have hl : lv_has ls 5 [(0, .ref (a 0)), (1, .int p0), (2, .int p1), (3, .int p2)] := hl
  unfold wX10_laysFace at h
  show W p l e rmX10_laysFace s m #[.ref (a 0), .int p0, .int p1, .int p2] below meth c s.heap [] 0 0 _ _
  refine lv_bipush (v := (26 : Int32)) hx hb dX10_laysFace_0 (by decide) ?_
  refine lv_iconst (v := (4 : Int32)) hx hb dX10_laysFace_2 (by decide) ?_
  refine lv_aload_n hx hb dX10_laysFace_3 rfl (lv_at hl 0 rfl) ?_
  refine va_get (D := G.1) (ci := 10) (v := .ref (a 1)) (C := RX10) (T := TX10) (N := 15) hx hb hts iX10_laysFace_X10 hown hKn.k hP 0 rfl rfl 1 (by decide) (hts _ lX10_laysFace_f7) (fun _ h9 => h9) rfl dX10_laysFace_4 ?_
  refine lv_bipush (v := (7 : Int32)) hx hb dX10_laysFace_7 (by decide) ?_
  refine va_iald hx hb hKn.k hP 1 0 rfl rfl (by unfold vp_in; decide) dX10_laysFace_9 ?_
  refine lv_imul hx hb dX10_laysFace_10 ?_
  refine lv_iadd hx hb dX10_laysFace_11 ?_
  refine lv_topi (fun y1 ey1 => ?_)
  have h := h y1 ey1
  refine lv_istore (lv' := [(4, .int y1), (0, .ref (a 0)), (1, .int p0), (2, .int p1), (3, .int p2)]) hx hb dX10_laysFace_12 hl (by decide) rfl (fun ls hl => ?_)
  refine lv_aload_n hx hb dX10_laysFace_14 rfl (lv_at hl 1 rfl) ?_
  refine va_get (D := G.1) (ci := 10) (v := .ref (a 1)) (C := RX10) (T := TX10) (N := 15) hx hb hts iX10_laysFace_X10 hown hKn.k hP 0 rfl rfl 1 (by decide) (hts _ lX10_laysFace_f7) (fun _ h9 => h9) rfl dX10_laysFace_15 ?_
  refine lv_iload hx hb dX10_laysFace_18 (lv_at hl 0 rfl) ?_
  refine lv_iconst (v := (0 : Int32)) hx hb dX10_laysFace_20 (by decide) ?_
  refine lv_iadd hx hb dX10_laysFace_21 ?_
  refine lv_iload_n hx hb dX10_laysFace_22 rfl (lv_at hl 2 rfl) ?_
  obtain ⟨hin, h⟩ := h
  refine va_iast hx hb hKn.k hP hD hS 1 0 rfl rfl hin dX10_laysFace_23 (fun H locs hP hD hS => ?_)
  obtain ⟨q2, eq2⟩ : ∃ z : qS, z = up2 q 1 (Int32.toNatClampNeg (y1 + (0 : Int32))) p0 := ⟨_, rfl⟩
  have hP : va_P G.1 vwCl (wM G a q2 ++ R) H := by rw [eq2]; exact hP
  have hD : va_D A (wM G a q2 ++ R) := by rw [eq2]; exact hD
  have h := h q2 eq2
  refine lv_aload_n hx hb dX10_laysFace_24 rfl (lv_at hl 1 rfl) ?_
  refine va_get (D := G.1) (ci := 10) (v := .ref (a 1)) (C := RX10) (T := TX10) (N := 15) hx hb hts iX10_laysFace_X10 hown hKn.k hP 0 rfl rfl 1 (by decide) (hts _ lX10_laysFace_f7) (fun _ h9 => h9) rfl dX10_laysFace_25 ?_
  refine lv_iload hx hb dX10_laysFace_28 (lv_at hl 0 rfl) ?_
  refine lv_iconst (v := (1 : Int32)) hx hb dX10_laysFace_30 (by decide) ?_
  refine lv_iadd hx hb dX10_laysFace_31 ?_
  refine lv_iload_n hx hb dX10_laysFace_32 rfl (lv_at hl 3 rfl) ?_
  obtain ⟨hin, h⟩ := h
  refine va_iast hx hb hKn.k hP hD hS 1 0 rfl rfl hin dX10_laysFace_33 (fun H locs hP hD hS => ?_)
  obtain ⟨q3, eq3⟩ : ∃ z : qS, z = up2 q2 1 (Int32.toNatClampNeg (y1 + (1 : Int32))) p1 := ⟨_, rfl⟩
  have hP : va_P G.1 vwCl (wM G a q3 ++ R) H := by rw [eq3]; exact hP
  have hD : va_D A (wM G a q3 ++ R) := by rw [eq3]; exact hD
  have h := h q3 eq3
  refine lv_aload_n hx hb dX10_laysFace_34 rfl (lv_at hl 1 rfl) ?_
  refine va_get (D := G.1) (ci := 10) (v := .ref (a 1)) (C := RX10) (T := TX10) (N := 15) hx hb hts iX10_laysFace_X10 hown hKn.k hP 0 rfl rfl 1 (by decide) (hts _ lX10_laysFace_f7) (fun _ h9 => h9) rfl dX10_laysFace_35 ?_
  refine lv_iload hx hb dX10_laysFace_38 (lv_at hl 0 rfl) ?_
  refine lv_iconst (v := (2 : Int32)) hx hb dX10_laysFace_40 (by decide) ?_
  refine lv_iadd hx hb dX10_laysFace_41 ?_
  refine lv_iload_n hx hb dX10_laysFace_42 rfl (lv_at hl 4 rfl) ?_
  obtain ⟨hin, h⟩ := h
  refine va_iast hx hb hKn.k hP hD hS 1 0 rfl rfl hin dX10_laysFace_43 (fun H locs hP hD hS => ?_)
  obtain ⟨q4, eq4⟩ : ∃ z : qS, z = up2 q3 1 (Int32.toNatClampNeg (y1 + (2 : Int32))) p2 := ⟨_, rfl⟩
  have hP : va_P G.1 vwCl (wM G a q4 ++ R) H := by rw [eq4]; exact hP
  have hD : va_D A (wM G a q4 ++ R) := by rw [eq4]; exact hD
  have h := h q4 eq4
  refine lv_aload_n hx hb dX10_laysFace_44 rfl (lv_at hl 1 rfl) ?_
  refine va_get (D := G.1) (ci := 10) (v := .ref (a 1)) (C := RX10) (T := TX10) (N := 15) hx hb hts iX10_laysFace_X10 hown hKn.k hP 0 rfl rfl 1 (by decide) (hts _ lX10_laysFace_f7) (fun _ h9 => h9) rfl dX10_laysFace_45 ?_
  refine lv_iload hx hb dX10_laysFace_48 (lv_at hl 0 rfl) ?_
  refine lv_iconst (v := (3 : Int32)) hx hb dX10_laysFace_50 (by decide) ?_
  refine lv_iadd hx hb dX10_laysFace_51 ?_
  refine lv_iconst (v := (0 : Int32)) hx hb dX10_laysFace_52 (by decide) ?_
  obtain ⟨hin, h⟩ := h
  refine va_iast hx hb hKn.k hP hD hS 1 0 rfl rfl hin dX10_laysFace_53 (fun H locs hP hD hS => ?_)
  obtain ⟨q5, eq5⟩ : ∃ z : qS, z = up2 q4 1 (Int32.toNatClampNeg (y1 + (3 : Int32))) (0 : Int32) := ⟨_, rfl⟩
  have hP : va_P G.1 vwCl (wM G a q5 ++ R) H := by rw [eq5]; exact hP
  have hD : va_D A (wM G a q5 ++ R) := by rw [eq5]; exact hD
  have h := h q5 eq5
  refine lv_aload_n hx hb dX10_laysFace_54 rfl (lv_at hl 1 rfl) ?_
  refine va_get (D := G.1) (ci := 10) (v := .ref (a 1)) (C := RX10) (T := TX10) (N := 15) hx hb hts iX10_laysFace_X10 hown hKn.k hP 0 rfl rfl 1 (by decide) (hts _ lX10_laysFace_f7) (fun _ h9 => h9) rfl dX10_laysFace_55 ?_
  refine lv_bipush (v := (7 : Int32)) hx hb dX10_laysFace_58 (by decide) ?_
  refine lv_dup2_11 hx hb dX10_laysFace_60 rfl rfl ?_
  refine va_iald hx hb hKn.k hP 1 0 rfl rfl (by unfold vp_in; decide) dX10_laysFace_61 ?_
  refine lv_iconst (v := (1 : Int32)) hx hb dX10_laysFace_62 (by decide) ?_
  refine lv_iadd hx hb dX10_laysFace_63 ?_
  refine lv_topi (fun y6 ey6 => ?_)
  have h := h y6 ey6
  refine va_iast hx hb hKn.k hP hD hS 1 0 rfl rfl (by unfold vp_in; decide) dX10_laysFace_64 (fun H locs hP hD hS => ?_)
  obtain ⟨q7, eq7⟩ : ∃ z : qS, z = up2 q5 1 7 y6 := ⟨_, rfl⟩
  have hP : va_P G.1 vwCl (wM G a q7 ++ R) H := by rw [eq7]; exact hP
  have hD : va_D A (wM G a q7 ++ R) := by rw [eq7]; exact hD
  have h := h q7 eq7
  refine lv_aload_n hx hb dX10_laysFace_65 rfl (lv_at hl 1 rfl) ?_
  refine va_get (D := G.1) (ci := 10) (v := .ref (a 1)) (C := RX10) (T := TX10) (N := 15) hx hb hts iX10_laysFace_X10 hown hKn.k hP 0 rfl rfl 1 (by decide) (hts _ lX10_laysFace_f7) (fun _ h9 => h9) rfl dX10_laysFace_66 ?_
  refine lv_bipush (v := (7 : Int32)) hx hb dX10_laysFace_69 (by decide) ?_
  refine va_iald hx hb hKn.k hP 1 0 rfl rfl (by unfold vp_in; decide) dX10_laysFace_71 ?_
  refine lv_iconst (v := (1 : Int32)) hx hb dX10_laysFace_72 (by decide) ?_
  refine lv_isub hx hb dX10_laysFace_73 ?_
  exact hret _ _ _ _ _ _ h hP hD hS dX10_laysFace_74
abbrev rmX10_face : Room := { frames := 2, cells := 0, slots := 0, locals := 45 }
theorem lX10_face_f32 : Cond.fieldLink RX10 32 "QuarryBlendsModel" "thrown" "I" ∈ wsX10_face := by decide +kernel
theorem iX10_face_X10 : ∀ w ∈ wsX100, w ∈ wsX10_face := by decide +kernel
set_option maxHeartbeats 4000000 in
set_option maxRecDepth 100000 in
theorem mX10_face (l : Launch) (G : qG) (k : Int32 → qS → Prop) (R : va_W) (a : Nat → Nat) (q : qS) (sz : Nat) (p0 : Int32) (p1 : Int32) (p2 : Int32) : Met l yX10_face wsX10_face rmX10_face (qPc G [.ref (a 0), .int p0, .int p1, .int p2] (wM G a q ++ R) sz (wX10_face k q p0 p1 p2)) (qQi G (wM G a q ++ R) sz (fun (r : Int32) (u : qS) => k r u) (fun (u : qS) => wM G a u ++ R)) 0 0 (va_A (wM G a q ++ R) sz) := by
  refine Met.ofW (cc := cX10_face) (maxL := 5) (ret := (some .int)) (by decide) rfl ?_
  intro p e s m args below meth c s₁ B hml hv
  obtain ⟨rfl, hsz, hP, hD0, hKn0, h⟩ := hv
  have hx := B.exec
  have hb := B.bytes
  have hr := B.returns
  have hts := atoms_spec (ws := wsX10_face) B.pre
  have hown : s.vm.findClass RX10 = some m.cls := findClass_of_methodNamed B.named
  have hlocks := B.notSynchronized
  subst hsz
  have hD := hD0.self (sz := s.heap.size)
  generalize hAe : va_A (wM G a q ++ R) s.heap.size = A at hD hKn0 ⊢
  have hA : ∀ q : Nat, s.heap.size ≤ q → A q := fun q h => by rw [← hAe]; exact Or.inr h
  have hKn : qKn G A s s.heap := hKn0
  have hS : va_S A s.heap s.heap [] := va_S.rf
  have hret : ∀ (r : Int32) (q' : qS) (H : Heap) (locs : List Loc) (ls : Array Slot) (pc : Nat), k r q' → va_P G.1 vwCl (wM G a q' ++ R) H → va_D A (wM G a q' ++ R) → va_S A s.heap H locs → decode cX10_face pc = .ok (.ireturn, 1) → W p l e rmX10_face s m #[.ref (a 0), .int p0, .int p1, .int p2] below meth c H locs 0 0 (MQ below (qQi G (wM G a q ++ R) s.heap.size (fun (r : Int32) (u : qS) => k r u) (fun (u : qS) => wM G a u ++ R)) #[.ref (a 0), .int p0, .int p1, .int p2] s 0 0 A) (F0 m pc ls [.int r]) := fun r q' H locs ls pc hk hP hD hS hd => W.iret hx hb hr (fun t ht hW => q_ri (u := (q' : qS)) hAe hk hP hD hS ht) hS.2.2 hd
  have hl := lv_entry ([.ref (a 0), .int p0, .int p1, .int p2]) (n := 5) (Nat.le_of_ble_eq_true rfl)
  rw [lg_entry_eq]
  generalize (lg_sl ([.ref (a 0), .int p0, .int p1, .int p2]) ++ List.replicate (5 - (lg_sl ([.ref (a 0), .int p0, .int p1, .int p2])).length) Slot.unset).toArray = ls at hl ⊢
  have hl : lv_has ls 5 [(0, .ref (a 0)), (1, .int p0), (2, .int p1), (3, .int p2)] := hl
  unfold wX10_face at h
  show W p l e rmX10_face s m #[.ref (a 0), .int p0, .int p1, .int p2] below meth c s.heap [] 0 0 _ _
  refine lv_aload_n hx hb dX10_face_0 rfl (lv_at hl 0 rfl) ?_
  refine lv_iconst (v := (0 : Int32)) hx hb dX10_face_1 (by decide) ?_
  refine va_put (D := G.1) (ci := 10) (v := .int (0 : Int32)) (ty := .int) (C := RX10) (T := TX10) (N := 15) hx hb hts iX10_face_X10 tyX10 tyX10_ok nmX10 hown hKn.k hP hD hS 0 rfl rfl 0 (by decide) (hts _ lX10_face_f32) (fun _ h9 => h9) rfl (by decide +kernel) rfl rfl (Nat.le_of_ble_eq_true rfl) dX10_face_2 (fun H locs hP hD hS => ?_)
  obtain ⟨q1, eq1⟩ : ∃ z : qS, z = up2 q 0 0 (0 : Int32) := ⟨_, rfl⟩
  have hP : va_P G.1 vwCl (wM G a q1 ++ R) H := by rw [eq1]; exact hP
  have hD : va_D A (wM G a q1 ++ R) := by rw [eq1]; exact hD
  have h := h q1 eq1
  refine lv_aload_n hx hb dX10_face_5 rfl (lv_at hl 0 rfl) ?_
  refine lv_iload_n hx hb dX10_face_6 rfl (lv_at hl 1 rfl) ?_
  refine lv_iload_n hx hb dX10_face_7 rfl (lv_at hl 2 rfl) ?_
  refine lv_iload_n hx hb dX10_face_8 rfl (lv_at hl 3 rfl) ?_
  refine qc_vi (As := [.int p0, .int p1, .int p2]) (rest := []) ⟨hx, hb, hml, hown, hts⟩ (mX10_refusesFace l G _ _ a q1 _ p0 p1 p2) (cwV 3 hts gX10_face_X10_refusesFace rfl rfl rfl (by decide +kernel) ⟨Nat.le_of_ble_eq_true rfl, Nat.le_of_ble_eq_true rfl⟩) hP hD hS hA hKn 0 10 rfl rfl rfl h rfl hl.1 rfl (Nat.le_of_ble_eq_true rfl) dX10_face_9 ⟨Nat.zero_le _, Nat.zero_le _⟩ (fun r2 q3 H locs h hP hD hS => ?_)
  have hP : va_P G.1 vwCl (wM G a q3 ++ R) H := hP
  have hD : va_D A (wM G a q3 ++ R) := hD
  refine lv_istore (lv' := [(4, .int r2), (0, .ref (a 0)), (1, .int p0), (2, .int p1), (3, .int p2)]) hx hb dX10_face_12 hl (by decide) rfl (fun ls hl => ?_)
  refine lv_iload hx hb dX10_face_14 (lv_at hl 0 rfl) ?_
  refine lv_if_eq (tgt := 22) hx hb dX10_face_16 (by decide) (fun c1 => ?_) (fun c1 => ?_)
  · have h := h.1 c1
    refine lv_aload_n hx hb dX10_face_22 rfl (lv_at hl 1 rfl) ?_
    refine qc_vv (As := []) (rest := []) ⟨hx, hb, hml, hown, hts⟩ (mX10_records l G _ _ a q3 _ ) (cwV 0 hts gX10_face_X10_records rfl rfl rfl (by decide +kernel) ⟨Nat.le_of_ble_eq_true rfl, Nat.le_of_ble_eq_true rfl⟩) hP hD hS hA hKn 0 10 rfl rfl rfl h rfl hl.1 rfl (Nat.le_of_ble_eq_true rfl) dX10_face_23 ⟨Nat.zero_le _, Nat.zero_le _⟩ (fun q5 H locs h hP hD hS => ?_)
    have hP : va_P G.1 vwCl (wM G a q5 ++ R) H := hP
    have hD : va_D A (wM G a q5 ++ R) := hD
    refine lv_aload_n hx hb dX10_face_26 rfl (lv_at hl 1 rfl) ?_
    refine lv_iload_n hx hb dX10_face_27 rfl (lv_at hl 2 rfl) ?_
    refine lv_iload_n hx hb dX10_face_28 rfl (lv_at hl 3 rfl) ?_
    refine lv_iload_n hx hb dX10_face_29 rfl (lv_at hl 4 rfl) ?_
    refine qc_vi (As := [.int p0, .int p1, .int p2]) (rest := []) ⟨hx, hb, hml, hown, hts⟩ (mX10_laysFace l G _ _ a q5 _ p0 p1 p2) (cwV 3 hts gX10_face_X10_laysFace rfl rfl rfl (by decide +kernel) ⟨Nat.le_of_ble_eq_true rfl, Nat.le_of_ble_eq_true rfl⟩) hP hD hS hA hKn 0 10 rfl rfl rfl h rfl hl.1 rfl (Nat.le_of_ble_eq_true rfl) dX10_face_30 ⟨Nat.zero_le _, Nat.zero_le _⟩ (fun r6 q7 H locs h hP hD hS => ?_)
    have hP : va_P G.1 vwCl (wM G a q7 ++ R) H := hP
    have hD : va_D A (wM G a q7 ++ R) := hD
    exact hret _ _ _ _ _ _ h hP hD hS dX10_face_33
  · have h := h.2 c1
    refine lv_iload hx hb dX10_face_19 (lv_at hl 0 rfl) ?_
    exact hret _ _ _ _ _ _ h hP hD hS dX10_face_21
abbrev rmX10_refusesContract : Room := { frames := 1, cells := 0, slots := 0, locals := 22 }
theorem lX10_refusesContract_f7 : Cond.fieldLink RX10 7 "QuarryBlendsModel" "s" "[I" ∈ wsX10_refusesContract := by decide +kernel
theorem iX10_refusesContract_X10 : ∀ w ∈ wsX100, w ∈ wsX10_refusesContract := by decide +kernel
set_option maxHeartbeats 4000000 in
set_option maxRecDepth 100000 in
theorem kX10_refusesContract_b77 {p : Program} {l : Launch} {e : Env} {s : State} {m : MethodId} {args : Array Value} {below : List Frame} {meth : Method} {c : Code} {G : qG} {A : Nat → Prop} {Qf : State → Prop} {R : va_W} {a : Nat → Nat} {k : Int32 → qS → Prop} (hx : p.tables.exec = Jvm.exec) (hb : c.code = cX10_refusesContract) (hml : c.maxLocals = 8) (hown : s.vm.findClass RX10 = some m.cls) (hts : ∀ w ∈ wsX10_refusesContract, w.before args s = true) (hA : ∀ q : Nat, s.heap.size ≤ q → A q) (hKn : qKn G A s s.heap) (hret : ∀ (r : Int32) (q : qS) (H : Heap) (locs : List Loc) (ls : Array Slot) (pc : Nat), k r q → va_P G.1 vwCl (wM G a q ++ R) H → va_D A (wM G a q ++ R) → va_S A s.heap H locs → decode cX10_refusesContract pc = .ok (.ireturn, 1) → W p l e rmX10_refusesContract s m args below meth c H locs 0 0 Qf (F0 m pc ls [.int r])) : ∀ (q : qS) (H : Heap) (locs : List Loc) (ls : Array Slot), wX10_refusesContract_b77 k q → va_P G.1 vwCl (wM G a q ++ R) H → va_D A (wM G a q ++ R) → va_S A s.heap H locs → lv_has ls 8 [] → W p l e rmX10_refusesContract s m args below meth c H locs 0 0 Qf (F0 m 77 ls []) := by
  intro q H locs ls h hP hD hS hl
  unfold wX10_refusesContract_b77 at h
  refine lv_bipush (v := (-2 : Int32)) hx hb dX10_refusesContract_77 (by decide) ?_
  exact hret _ _ _ _ _ _ h hP hD hS dX10_refusesContract_79
set_option maxHeartbeats 4000000 in
set_option maxRecDepth 100000 in
theorem kX10_refusesContract_b98 {p : Program} {l : Launch} {e : Env} {s : State} {m : MethodId} {args : Array Value} {below : List Frame} {meth : Method} {c : Code} {G : qG} {A : Nat → Prop} {Qf : State → Prop} {R : va_W} {a : Nat → Nat} {k : Int32 → qS → Prop} (hx : p.tables.exec = Jvm.exec) (hb : c.code = cX10_refusesContract) (hml : c.maxLocals = 8) (hown : s.vm.findClass RX10 = some m.cls) (hts : ∀ w ∈ wsX10_refusesContract, w.before args s = true) (hA : ∀ q : Nat, s.heap.size ≤ q → A q) (hKn : qKn G A s s.heap) (hret : ∀ (r : Int32) (q : qS) (H : Heap) (locs : List Loc) (ls : Array Slot) (pc : Nat), k r q → va_P G.1 vwCl (wM G a q ++ R) H → va_D A (wM G a q ++ R) → va_S A s.heap H locs → decode cX10_refusesContract pc = .ok (.ireturn, 1) → W p l e rmX10_refusesContract s m args below meth c H locs 0 0 Qf (F0 m pc ls [.int r])) : ∀ (q : qS) (z0 : Int32) (H : Heap) (locs : List Loc) (ls : Array Slot), wX10_refusesContract_b98 k q z0 → va_P G.1 vwCl (wM G a q ++ R) H → va_D A (wM G a q ++ R) → va_S A s.heap H locs → lv_has ls 8 [] → W p l e rmX10_refusesContract s m args below meth c H locs 0 0 Qf (F0 m 98 ls [.int z0]) := by
  intro q z0 H locs ls h hP hD hS hl
  unfold wX10_refusesContract_b98 at h
  exact hret _ _ _ _ _ _ h hP hD hS dX10_refusesContract_98
set_option maxHeartbeats 4000000 in
set_option maxRecDepth 100000 in
theorem kX10_refusesContract_b48 {p : Program} {l : Launch} {e : Env} {s : State} {m : MethodId} {args : Array Value} {below : List Frame} {meth : Method} {c : Code} {G : qG} {A : Nat → Prop} {Qf : State → Prop} {R : va_W} {a : Nat → Nat} {k : Int32 → qS → Prop} (hx : p.tables.exec = Jvm.exec) (hb : c.code = cX10_refusesContract) (hml : c.maxLocals = 8) (hown : s.vm.findClass RX10 = some m.cls) (hts : ∀ w ∈ wsX10_refusesContract, w.before args s = true) (hA : ∀ q : Nat, s.heap.size ≤ q → A q) (hKn : qKn G A s s.heap) (hret : ∀ (r : Int32) (q : qS) (H : Heap) (locs : List Loc) (ls : Array Slot) (pc : Nat), k r q → va_P G.1 vwCl (wM G a q ++ R) H → va_D A (wM G a q ++ R) → va_S A s.heap H locs → decode cX10_refusesContract pc = .ok (.ireturn, 1) → W p l e rmX10_refusesContract s m args below meth c H locs 0 0 Qf (F0 m pc ls [.int r])) : ∀ (q : qS) (x1 : Int32) (x6 : Int32) (z0 : Int32) (H : Heap) (locs : List Loc) (ls : Array Slot), wX10_refusesContract_b48 k q x1 x6 z0 → va_P G.1 vwCl (wM G a q ++ R) H → va_D A (wM G a q ++ R) → va_S A s.heap H locs → lv_has ls 8 [(0, .ref (a 0)), (1, .int x1), (6, .int x6)] → W p l e rmX10_refusesContract s m args below meth c H locs 0 0 Qf (F0 m 48 ls [.int z0]) := by
  intro q x1 x6 z0 H locs ls h hP hD hS hl
  unfold wX10_refusesContract_b48 at h
  refine lv_istore (lv' := [(7, .int z0), (0, .ref (a 0)), (1, .int x1), (6, .int x6)]) hx hb dX10_refusesContract_48 hl (by decide) rfl (fun ls hl => ?_)
  refine lv_iload hx hb dX10_refusesContract_50 (lv_at hl 0 rfl) ?_
  refine lv_if_eq (tgt := 77) hx hb dX10_refusesContract_52 (by decide) (fun c1 => ?_) (fun c1 => ?_)
  · have h := h.1 c1
    exact kX10_refusesContract_b77 hx hb hml hown hts hA hKn hret q _ _ _ h hP hD hS (lv_sub hl [] rfl)
  · have h := h.2 c1
    refine lv_iload_n hx hb dX10_refusesContract_55 rfl (lv_at hl 2 rfl) ?_
    refine lv_iconst (v := (1 : Int32)) hx hb dX10_refusesContract_56 (by decide) ?_
    refine lv_sipush (v := (500 : Int32)) hx hb dX10_refusesContract_57 (by decide) ?_
    refine qc_si (As := [.int x1, .int (1 : Int32), .int (500 : Int32)]) (rest := []) ⟨hx, hb, hml, hown, hts⟩ (mX10_in l G _ _ _ x1 (1 : Int32) (500 : Int32)) (cwS 3 hts gX10_refusesContract_X10_in rfl rfl rfl (by decide +kernel) ⟨Nat.le_of_ble_eq_true rfl, Nat.le_of_ble_eq_true rfl⟩) hP hD hS hA hKn h rfl hl.1 rfl (Nat.le_of_ble_eq_true rfl) dX10_refusesContract_60 ⟨Nat.zero_le _, Nat.zero_le _⟩ (fun r1 _ H locs h hP hD hS => ?_)
    have hP : va_P G.1 vwCl (wM G a q ++ R) H := hP
    have hD : va_D A (wM G a q ++ R) := hD
    refine lv_if_eq (tgt := 77) hx hb dX10_refusesContract_63 (by decide) (fun c1 => ?_) (fun c1 => ?_)
    · have h := h.1 c1
      exact kX10_refusesContract_b77 hx hb hml hown hts hA hKn hret q _ _ _ h hP hD hS (lv_sub hl [] rfl)
    · have h := h.2 c1
      refine lv_iload hx hb dX10_refusesContract_66 (lv_at hl 3 rfl) ?_
      refine lv_iconst (v := (0 : Int32)) hx hb dX10_refusesContract_68 (by decide) ?_
      refine lv_bipush (v := (99 : Int32)) hx hb dX10_refusesContract_69 (by decide) ?_
      refine qc_si (As := [.int x6, .int (0 : Int32), .int (99 : Int32)]) (rest := []) ⟨hx, hb, hml, hown, hts⟩ (mX10_in l G _ _ _ x6 (0 : Int32) (99 : Int32)) (cwS 3 hts gX10_refusesContract_X10_in rfl rfl rfl (by decide +kernel) ⟨Nat.le_of_ble_eq_true rfl, Nat.le_of_ble_eq_true rfl⟩) hP hD hS hA hKn h rfl hl.1 rfl (Nat.le_of_ble_eq_true rfl) dX10_refusesContract_71 ⟨Nat.zero_le _, Nat.zero_le _⟩ (fun r2 _ H locs h hP hD hS => ?_)
      have hP : va_P G.1 vwCl (wM G a q ++ R) H := hP
      have hD : va_D A (wM G a q ++ R) := hD
      refine lv_if_ne (tgt := 80) hx hb dX10_refusesContract_74 (by decide) (fun c1 => ?_) (fun c1 => ?_)
      · have h := h.1 c1
        refine lv_aload_n hx hb dX10_refusesContract_80 rfl (lv_at hl 1 rfl) ?_
        refine va_get (D := G.1) (ci := 10) (v := .ref (a 1)) (C := RX10) (T := TX10) (N := 15) hx hb hts iX10_refusesContract_X10 hown hKn.k hP 0 rfl rfl 1 (by decide) (hts _ lX10_refusesContract_f7) (fun _ h9 => h9) rfl dX10_refusesContract_81 ?_
        refine lv_bipush (v := (8 : Int32)) hx hb dX10_refusesContract_84 (by decide) ?_
        refine va_iald hx hb hKn.k hP 1 0 rfl rfl (by unfold vp_in; decide) dX10_refusesContract_86 ?_
        refine lv_bipush (v := (12 : Int32)) hx hb dX10_refusesContract_87 (by decide) ?_
        refine lv_icmp_ne (tgt := 97) hx hb dX10_refusesContract_89 (by decide) (fun c1 => ?_) (fun c1 => ?_)
        · have h := h.1 c1
          refine lv_iconst (v := (0 : Int32)) hx hb dX10_refusesContract_97 (by decide) ?_
          exact kX10_refusesContract_b98 hx hb hml hown hts hA hKn hret q (0 : Int32) _ _ _ h hP hD hS (lv_sub hl [] rfl)
        · have h := h.2 c1
          refine lv_bipush (v := (-4 : Int32)) hx hb dX10_refusesContract_92 (by decide) ?_
          refine lv_goto (tgt := 98) hx hb dX10_refusesContract_94 (by decide) ?_
          exact kX10_refusesContract_b98 hx hb hml hown hts hA hKn hret q (-4 : Int32) _ _ _ h hP hD hS (lv_sub hl [] rfl)
      · have h := h.2 c1
        exact kX10_refusesContract_b77 hx hb hml hown hts hA hKn hret q _ _ _ h hP hD hS (lv_sub hl [] rfl)
set_option maxHeartbeats 4000000 in
set_option maxRecDepth 100000 in
theorem kX10_refusesContract_b47 {p : Program} {l : Launch} {e : Env} {s : State} {m : MethodId} {args : Array Value} {below : List Frame} {meth : Method} {c : Code} {G : qG} {A : Nat → Prop} {Qf : State → Prop} {R : va_W} {a : Nat → Nat} {k : Int32 → qS → Prop} (hx : p.tables.exec = Jvm.exec) (hb : c.code = cX10_refusesContract) (hml : c.maxLocals = 8) (hown : s.vm.findClass RX10 = some m.cls) (hts : ∀ w ∈ wsX10_refusesContract, w.before args s = true) (hA : ∀ q : Nat, s.heap.size ≤ q → A q) (hKn : qKn G A s s.heap) (hret : ∀ (r : Int32) (q : qS) (H : Heap) (locs : List Loc) (ls : Array Slot) (pc : Nat), k r q → va_P G.1 vwCl (wM G a q ++ R) H → va_D A (wM G a q ++ R) → va_S A s.heap H locs → decode cX10_refusesContract pc = .ok (.ireturn, 1) → W p l e rmX10_refusesContract s m args below meth c H locs 0 0 Qf (F0 m pc ls [.int r])) : ∀ (q : qS) (x1 : Int32) (x6 : Int32) (H : Heap) (locs : List Loc) (ls : Array Slot), wX10_refusesContract_b47 k q x1 x6 → va_P G.1 vwCl (wM G a q ++ R) H → va_D A (wM G a q ++ R) → va_S A s.heap H locs → lv_has ls 8 [(0, .ref (a 0)), (1, .int x1), (6, .int x6)] → W p l e rmX10_refusesContract s m args below meth c H locs 0 0 Qf (F0 m 47 ls []) := by
  intro q x1 x6 H locs ls h hP hD hS hl
  unfold wX10_refusesContract_b47 at h
  refine lv_iconst (v := (0 : Int32)) hx hb dX10_refusesContract_47 (by decide) ?_
  exact kX10_refusesContract_b48 hx hb hml hown hts hA hKn hret q x1 x6 (0 : Int32) _ _ _ h hP hD hS (lv_sub hl [0, 1, 2] rfl)
set_option maxHeartbeats 4000000 in
set_option maxRecDepth 100000 in
theorem mX10_refusesContract (l : Launch) (G : qG) (k : Int32 → qS → Prop) (R : va_W) (a : Nat → Nat) (q : qS) (sz : Nat) (p0 : Int32) (p1 : Int32) (p2 : Int32) (p3 : Int32) (p4 : Int32) (p5 : Int32) : Met l yX10_refusesContract wsX10_refusesContract rmX10_refusesContract (qPc G [.ref (a 0), .int p0, .int p1, .int p2, .int p3, .int p4, .int p5] (wM G a q ++ R) sz (wX10_refusesContract k q p0 p1 p2 p3 p4 p5)) (qQi G (wM G a q ++ R) sz (fun (r : Int32) (u : qS) => k r u) (fun (u : qS) => wM G a u ++ R)) 0 0 (va_A (wM G a q ++ R) sz) := by
  refine Met.ofW (cc := cX10_refusesContract) (maxL := 8) (ret := (some .int)) (by decide) rfl ?_
  intro p e s m args below meth c s₁ B hml hv
  obtain ⟨rfl, hsz, hP, hD0, hKn0, h⟩ := hv
  have hx := B.exec
  have hb := B.bytes
  have hr := B.returns
  have hts := atoms_spec (ws := wsX10_refusesContract) B.pre
  have hown : s.vm.findClass RX10 = some m.cls := findClass_of_methodNamed B.named
  have hlocks := B.notSynchronized
  subst hsz
  have hD := hD0.self (sz := s.heap.size)
  generalize hAe : va_A (wM G a q ++ R) s.heap.size = A at hD hKn0 ⊢
  have hA : ∀ q : Nat, s.heap.size ≤ q → A q := fun q h => by rw [← hAe]; exact Or.inr h
  have hKn : qKn G A s s.heap := hKn0
  have hS : va_S A s.heap s.heap [] := va_S.rf
  have hret : ∀ (r : Int32) (q' : qS) (H : Heap) (locs : List Loc) (ls : Array Slot) (pc : Nat), k r q' → va_P G.1 vwCl (wM G a q' ++ R) H → va_D A (wM G a q' ++ R) → va_S A s.heap H locs → decode cX10_refusesContract pc = .ok (.ireturn, 1) → W p l e rmX10_refusesContract s m #[.ref (a 0), .int p0, .int p1, .int p2, .int p3, .int p4, .int p5] below meth c H locs 0 0 (MQ below (qQi G (wM G a q ++ R) s.heap.size (fun (r : Int32) (u : qS) => k r u) (fun (u : qS) => wM G a u ++ R)) #[.ref (a 0), .int p0, .int p1, .int p2, .int p3, .int p4, .int p5] s 0 0 A) (F0 m pc ls [.int r]) := fun r q' H locs ls pc hk hP hD hS hd => W.iret hx hb hr (fun t ht hW => q_ri (u := (q' : qS)) hAe hk hP hD hS ht) hS.2.2 hd
  have hl := lv_entry ([.ref (a 0), .int p0, .int p1, .int p2, .int p3, .int p4, .int p5]) (n := 8) (Nat.le_of_ble_eq_true rfl)
  rw [lg_entry_eq]
  generalize (lg_sl ([.ref (a 0), .int p0, .int p1, .int p2, .int p3, .int p4, .int p5]) ++ List.replicate (8 - (lg_sl ([.ref (a 0), .int p0, .int p1, .int p2, .int p3, .int p4, .int p5])).length) Slot.unset).toArray = ls at hl ⊢
  have hl : lv_has ls 8 [(0, .ref (a 0)), (1, .int p0), (2, .int p1), (3, .int p2), (4, .int p3), (5, .int p4), (6, .int p5)] := hl
  unfold wX10_refusesContract at h
  show W p l e rmX10_refusesContract s m #[.ref (a 0), .int p0, .int p1, .int p2, .int p3, .int p4, .int p5] below meth c s.heap [] 0 0 _ _
  refine lv_iload_n hx hb dX10_refusesContract_0 rfl (lv_at hl 2 rfl) ?_
  refine lv_iconst (v := (0 : Int32)) hx hb dX10_refusesContract_1 (by decide) ?_
  refine lv_bipush (v := (100 : Int32)) hx hb dX10_refusesContract_2 (by decide) ?_
  refine qc_si (As := [.int p1, .int (0 : Int32), .int (100 : Int32)]) (rest := []) ⟨hx, hb, hml, hown, hts⟩ (mX10_in l G _ _ _ p1 (0 : Int32) (100 : Int32)) (cwS 3 hts gX10_refusesContract_X10_in rfl rfl rfl (by decide +kernel) ⟨Nat.le_of_ble_eq_true rfl, Nat.le_of_ble_eq_true rfl⟩) hP hD hS hA hKn h rfl hl.1 rfl (Nat.le_of_ble_eq_true rfl) dX10_refusesContract_4 ⟨Nat.zero_le _, Nat.zero_le _⟩ (fun r3 _ H locs h hP hD hS => ?_)
  have hP : va_P G.1 vwCl (wM G a q ++ R) H := hP
  have hD : va_D A (wM G a q ++ R) := hD
  refine lv_if_eq (tgt := 47) hx hb dX10_refusesContract_7 (by decide) (fun c1 => ?_) (fun c1 => ?_)
  · have h := h.1 c1
    exact kX10_refusesContract_b47 hx hb hml hown hts hA hKn hret q p0 p5 _ _ _ h hP hD hS (lv_sub hl [0, 1, 6] rfl)
  · have h := h.2 c1
    refine lv_iload_n hx hb dX10_refusesContract_10 rfl (lv_at hl 3 rfl) ?_
    refine lv_iload_n hx hb dX10_refusesContract_11 rfl (lv_at hl 2 rfl) ?_
    refine lv_bipush (v := (100 : Int32)) hx hb dX10_refusesContract_12 (by decide) ?_
    refine qc_si (As := [.int p2, .int p1, .int (100 : Int32)]) (rest := []) ⟨hx, hb, hml, hown, hts⟩ (mX10_in l G _ _ _ p2 p1 (100 : Int32)) (cwS 3 hts gX10_refusesContract_X10_in rfl rfl rfl (by decide +kernel) ⟨Nat.le_of_ble_eq_true rfl, Nat.le_of_ble_eq_true rfl⟩) hP hD hS hA hKn h rfl hl.1 rfl (Nat.le_of_ble_eq_true rfl) dX10_refusesContract_14 ⟨Nat.zero_le _, Nat.zero_le _⟩ (fun r4 _ H locs h hP hD hS => ?_)
    have hP : va_P G.1 vwCl (wM G a q ++ R) H := hP
    have hD : va_D A (wM G a q ++ R) := hD
    refine lv_if_eq (tgt := 47) hx hb dX10_refusesContract_17 (by decide) (fun c1 => ?_) (fun c1 => ?_)
    · have h := h.1 c1
      exact kX10_refusesContract_b47 hx hb hml hown hts hA hKn hret q p0 p5 _ _ _ h hP hD hS (lv_sub hl [0, 1, 6] rfl)
    · have h := h.2 c1
      refine lv_iload hx hb dX10_refusesContract_20 (lv_at hl 4 rfl) ?_
      refine lv_iconst (v := (0 : Int32)) hx hb dX10_refusesContract_22 (by decide) ?_
      refine lv_bipush (v := (100 : Int32)) hx hb dX10_refusesContract_23 (by decide) ?_
      refine qc_si (As := [.int p3, .int (0 : Int32), .int (100 : Int32)]) (rest := []) ⟨hx, hb, hml, hown, hts⟩ (mX10_in l G _ _ _ p3 (0 : Int32) (100 : Int32)) (cwS 3 hts gX10_refusesContract_X10_in rfl rfl rfl (by decide +kernel) ⟨Nat.le_of_ble_eq_true rfl, Nat.le_of_ble_eq_true rfl⟩) hP hD hS hA hKn h rfl hl.1 rfl (Nat.le_of_ble_eq_true rfl) dX10_refusesContract_25 ⟨Nat.zero_le _, Nat.zero_le _⟩ (fun r5 _ H locs h hP hD hS => ?_)
      have hP : va_P G.1 vwCl (wM G a q ++ R) H := hP
      have hD : va_D A (wM G a q ++ R) := hD
      refine lv_if_eq (tgt := 47) hx hb dX10_refusesContract_28 (by decide) (fun c1 => ?_) (fun c1 => ?_)
      · have h := h.1 c1
        exact kX10_refusesContract_b47 hx hb hml hown hts hA hKn hret q p0 p5 _ _ _ h hP hD hS (lv_sub hl [0, 1, 6] rfl)
      · have h := h.2 c1
        refine lv_iload hx hb dX10_refusesContract_31 (lv_at hl 5 rfl) ?_
        refine lv_iload hx hb dX10_refusesContract_33 (lv_at hl 4 rfl) ?_
        refine lv_bipush (v := (100 : Int32)) hx hb dX10_refusesContract_35 (by decide) ?_
        refine qc_si (As := [.int p4, .int p3, .int (100 : Int32)]) (rest := []) ⟨hx, hb, hml, hown, hts⟩ (mX10_in l G _ _ _ p4 p3 (100 : Int32)) (cwS 3 hts gX10_refusesContract_X10_in rfl rfl rfl (by decide +kernel) ⟨Nat.le_of_ble_eq_true rfl, Nat.le_of_ble_eq_true rfl⟩) hP hD hS hA hKn h rfl hl.1 rfl (Nat.le_of_ble_eq_true rfl) dX10_refusesContract_37 ⟨Nat.zero_le _, Nat.zero_le _⟩ (fun r6 _ H locs h hP hD hS => ?_)
        have hP : va_P G.1 vwCl (wM G a q ++ R) H := hP
        have hD : va_D A (wM G a q ++ R) := hD
        refine lv_if_eq (tgt := 47) hx hb dX10_refusesContract_40 (by decide) (fun c1 => ?_) (fun c1 => ?_)
        · have h := h.1 c1
          exact kX10_refusesContract_b47 hx hb hml hown hts hA hKn hret q p0 p5 _ _ _ h hP hD hS (lv_sub hl [0, 1, 6] rfl)
        · have h := h.2 c1
          refine lv_iconst (v := (1 : Int32)) hx hb dX10_refusesContract_43 (by decide) ?_
          refine lv_goto (tgt := 48) hx hb dX10_refusesContract_44 (by decide) ?_
          exact kX10_refusesContract_b48 hx hb hml hown hts hA hKn hret q p0 p5 (1 : Int32) _ _ _ h hP hD hS (lv_sub hl [0, 1, 6] rfl)
abbrev rmX10_laysContract : Room := { frames := 0, cells := 0, slots := 0, locals := 0 }
theorem lX10_laysContract_f7 : Cond.fieldLink RX10 7 "QuarryBlendsModel" "s" "[I" ∈ wsX10_laysContract := by decide +kernel
theorem iX10_laysContract_X10 : ∀ w ∈ wsX100, w ∈ wsX10_laysContract := by decide +kernel
set_option maxHeartbeats 4000000 in
set_option maxRecDepth 100000 in
theorem mX10_laysContract (l : Launch) (G : qG) (k : Int32 → qS → Prop) (R : va_W) (a : Nat → Nat) (q : qS) (sz : Nat) (p0 : Int32) (p1 : Int32) (p2 : Int32) (p3 : Int32) (p4 : Int32) (p5 : Int32) : Met l yX10_laysContract wsX10_laysContract rmX10_laysContract (qPc G [.ref (a 0), .int p0, .int p1, .int p2, .int p3, .int p4, .int p5] (wM G a q ++ R) sz (wX10_laysContract k q p0 p1 p2 p3 p4 p5)) (qQi G (wM G a q ++ R) sz (fun (r : Int32) (u : qS) => k r u) (fun (u : qS) => wM G a u ++ R)) 0 0 (va_A (wM G a q ++ R) sz) := by
  refine Met.ofW (cc := cX10_laysContract) (maxL := 8) (ret := (some .int)) (by decide) rfl ?_
  intro p e s m args below meth c s₁ B hml hv
  obtain ⟨rfl, hsz, hP, hD0, hKn0, h⟩ := hv
  have hx := B.exec
  have hb := B.bytes
  have hr := B.returns
  have hts := atoms_spec (ws := wsX10_laysContract) B.pre
  have hown : s.vm.findClass RX10 = some m.cls := findClass_of_methodNamed B.named
  have hlocks := B.notSynchronized
  subst hsz
  have hD := hD0.self (sz := s.heap.size)
  generalize hAe : va_A (wM G a q ++ R) s.heap.size = A at hD hKn0 ⊢
  have hA : ∀ q : Nat, s.heap.size ≤ q → A q := fun q h => by rw [← hAe]; exact Or.inr h
  have hKn : qKn G A s s.heap := hKn0
  have hS : va_S A s.heap s.heap [] := va_S.rf
  have hret : ∀ (r : Int32) (q' : qS) (H : Heap) (locs : List Loc) (ls : Array Slot) (pc : Nat), k r q' → va_P G.1 vwCl (wM G a q' ++ R) H → va_D A (wM G a q' ++ R) → va_S A s.heap H locs → decode cX10_laysContract pc = .ok (.ireturn, 1) → W p l e rmX10_laysContract s m #[.ref (a 0), .int p0, .int p1, .int p2, .int p3, .int p4, .int p5] below meth c H locs 0 0 (MQ below (qQi G (wM G a q ++ R) s.heap.size (fun (r : Int32) (u : qS) => k r u) (fun (u : qS) => wM G a u ++ R)) #[.ref (a 0), .int p0, .int p1, .int p2, .int p3, .int p4, .int p5] s 0 0 A) (F0 m pc ls [.int r]) := fun r q' H locs ls pc hk hP hD hS hd => W.iret hx hb hr (fun t ht hW => q_ri (u := (q' : qS)) hAe hk hP hD hS ht) hS.2.2 hd
  have hl := lv_entry ([.ref (a 0), .int p0, .int p1, .int p2, .int p3, .int p4, .int p5]) (n := 8) (Nat.le_of_ble_eq_true rfl)
  rw [lg_entry_eq]
  generalize (lg_sl ([.ref (a 0), .int p0, .int p1, .int p2, .int p3, .int p4, .int p5]) ++ List.replicate (8 - (lg_sl ([.ref (a 0), .int p0, .int p1, .int p2, .int p3, .int p4, .int p5])).length) Slot.unset).toArray = ls at hl ⊢
  have hl : lv_has ls 8 [(0, .ref (a 0)), (1, .int p0), (2, .int p1), (3, .int p2), (4, .int p3), (5, .int p4), (6, .int p5)] := hl
  unfold wX10_laysContract at h
  show W p l e rmX10_laysContract s m #[.ref (a 0), .int p0, .int p1, .int p2, .int p3, .int p4, .int p5] below meth c s.heap [] 0 0 _ _
  refine lv_sipush (v := (138 : Int32)) hx hb dX10_laysContract_0 (by decide) ?_
  refine lv_bipush (v := (6 : Int32)) hx hb dX10_laysContract_3 (by decide) ?_
  refine lv_aload_n hx hb dX10_laysContract_5 rfl (lv_at hl 0 rfl) ?_
  refine va_get (D := G.1) (ci := 10) (v := .ref (a 1)) (C := RX10) (T := TX10) (N := 15) hx hb hts iX10_laysContract_X10 hown hKn.k hP 0 rfl rfl 1 (by decide) (hts _ lX10_laysContract_f7) (fun _ h9 => h9) rfl dX10_laysContract_6 ?_
  refine lv_bipush (v := (8 : Int32)) hx hb dX10_laysContract_9 (by decide) ?_
  refine va_iald hx hb hKn.k hP 1 0 rfl rfl (by unfold vp_in; decide) dX10_laysContract_11 ?_
  refine lv_imul hx hb dX10_laysContract_12 ?_
  refine lv_iadd hx hb dX10_laysContract_13 ?_
  refine lv_topi (fun y1 ey1 => ?_)
  have h := h y1 ey1
  refine lv_istore (lv' := [(7, .int y1), (0, .ref (a 0)), (1, .int p0), (2, .int p1), (3, .int p2), (4, .int p3), (5, .int p4), (6, .int p5)]) hx hb dX10_laysContract_14 hl (by decide) rfl (fun ls hl => ?_)
  refine lv_aload_n hx hb dX10_laysContract_16 rfl (lv_at hl 1 rfl) ?_
  refine va_get (D := G.1) (ci := 10) (v := .ref (a 1)) (C := RX10) (T := TX10) (N := 15) hx hb hts iX10_laysContract_X10 hown hKn.k hP 0 rfl rfl 1 (by decide) (hts _ lX10_laysContract_f7) (fun _ h9 => h9) rfl dX10_laysContract_17 ?_
  refine lv_iload hx hb dX10_laysContract_20 (lv_at hl 0 rfl) ?_
  refine lv_iconst (v := (0 : Int32)) hx hb dX10_laysContract_22 (by decide) ?_
  refine lv_iadd hx hb dX10_laysContract_23 ?_
  refine lv_iload_n hx hb dX10_laysContract_24 rfl (lv_at hl 2 rfl) ?_
  obtain ⟨hin, h⟩ := h
  refine va_iast hx hb hKn.k hP hD hS 1 0 rfl rfl hin dX10_laysContract_25 (fun H locs hP hD hS => ?_)
  obtain ⟨q2, eq2⟩ : ∃ z : qS, z = up2 q 1 (Int32.toNatClampNeg (y1 + (0 : Int32))) p0 := ⟨_, rfl⟩
  have hP : va_P G.1 vwCl (wM G a q2 ++ R) H := by rw [eq2]; exact hP
  have hD : va_D A (wM G a q2 ++ R) := by rw [eq2]; exact hD
  have h := h q2 eq2
  refine lv_aload_n hx hb dX10_laysContract_26 rfl (lv_at hl 1 rfl) ?_
  refine va_get (D := G.1) (ci := 10) (v := .ref (a 1)) (C := RX10) (T := TX10) (N := 15) hx hb hts iX10_laysContract_X10 hown hKn.k hP 0 rfl rfl 1 (by decide) (hts _ lX10_laysContract_f7) (fun _ h9 => h9) rfl dX10_laysContract_27 ?_
  refine lv_iload hx hb dX10_laysContract_30 (lv_at hl 0 rfl) ?_
  refine lv_iconst (v := (1 : Int32)) hx hb dX10_laysContract_32 (by decide) ?_
  refine lv_iadd hx hb dX10_laysContract_33 ?_
  refine lv_iload_n hx hb dX10_laysContract_34 rfl (lv_at hl 3 rfl) ?_
  obtain ⟨hin, h⟩ := h
  refine va_iast hx hb hKn.k hP hD hS 1 0 rfl rfl hin dX10_laysContract_35 (fun H locs hP hD hS => ?_)
  obtain ⟨q3, eq3⟩ : ∃ z : qS, z = up2 q2 1 (Int32.toNatClampNeg (y1 + (1 : Int32))) p1 := ⟨_, rfl⟩
  have hP : va_P G.1 vwCl (wM G a q3 ++ R) H := by rw [eq3]; exact hP
  have hD : va_D A (wM G a q3 ++ R) := by rw [eq3]; exact hD
  have h := h q3 eq3
  refine lv_aload_n hx hb dX10_laysContract_36 rfl (lv_at hl 1 rfl) ?_
  refine va_get (D := G.1) (ci := 10) (v := .ref (a 1)) (C := RX10) (T := TX10) (N := 15) hx hb hts iX10_laysContract_X10 hown hKn.k hP 0 rfl rfl 1 (by decide) (hts _ lX10_laysContract_f7) (fun _ h9 => h9) rfl dX10_laysContract_37 ?_
  refine lv_iload hx hb dX10_laysContract_40 (lv_at hl 0 rfl) ?_
  refine lv_iconst (v := (2 : Int32)) hx hb dX10_laysContract_42 (by decide) ?_
  refine lv_iadd hx hb dX10_laysContract_43 ?_
  refine lv_iload_n hx hb dX10_laysContract_44 rfl (lv_at hl 4 rfl) ?_
  obtain ⟨hin, h⟩ := h
  refine va_iast hx hb hKn.k hP hD hS 1 0 rfl rfl hin dX10_laysContract_45 (fun H locs hP hD hS => ?_)
  obtain ⟨q4, eq4⟩ : ∃ z : qS, z = up2 q3 1 (Int32.toNatClampNeg (y1 + (2 : Int32))) p2 := ⟨_, rfl⟩
  have hP : va_P G.1 vwCl (wM G a q4 ++ R) H := by rw [eq4]; exact hP
  have hD : va_D A (wM G a q4 ++ R) := by rw [eq4]; exact hD
  have h := h q4 eq4
  refine lv_aload_n hx hb dX10_laysContract_46 rfl (lv_at hl 1 rfl) ?_
  refine va_get (D := G.1) (ci := 10) (v := .ref (a 1)) (C := RX10) (T := TX10) (N := 15) hx hb hts iX10_laysContract_X10 hown hKn.k hP 0 rfl rfl 1 (by decide) (hts _ lX10_laysContract_f7) (fun _ h9 => h9) rfl dX10_laysContract_47 ?_
  refine lv_iload hx hb dX10_laysContract_50 (lv_at hl 0 rfl) ?_
  refine lv_iconst (v := (3 : Int32)) hx hb dX10_laysContract_52 (by decide) ?_
  refine lv_iadd hx hb dX10_laysContract_53 ?_
  refine lv_iload hx hb dX10_laysContract_54 (lv_at hl 5 rfl) ?_
  obtain ⟨hin, h⟩ := h
  refine va_iast hx hb hKn.k hP hD hS 1 0 rfl rfl hin dX10_laysContract_56 (fun H locs hP hD hS => ?_)
  obtain ⟨q5, eq5⟩ : ∃ z : qS, z = up2 q4 1 (Int32.toNatClampNeg (y1 + (3 : Int32))) p3 := ⟨_, rfl⟩
  have hP : va_P G.1 vwCl (wM G a q5 ++ R) H := by rw [eq5]; exact hP
  have hD : va_D A (wM G a q5 ++ R) := by rw [eq5]; exact hD
  have h := h q5 eq5
  refine lv_aload_n hx hb dX10_laysContract_57 rfl (lv_at hl 1 rfl) ?_
  refine va_get (D := G.1) (ci := 10) (v := .ref (a 1)) (C := RX10) (T := TX10) (N := 15) hx hb hts iX10_laysContract_X10 hown hKn.k hP 0 rfl rfl 1 (by decide) (hts _ lX10_laysContract_f7) (fun _ h9 => h9) rfl dX10_laysContract_58 ?_
  refine lv_iload hx hb dX10_laysContract_61 (lv_at hl 0 rfl) ?_
  refine lv_iconst (v := (4 : Int32)) hx hb dX10_laysContract_63 (by decide) ?_
  refine lv_iadd hx hb dX10_laysContract_64 ?_
  refine lv_iload hx hb dX10_laysContract_65 (lv_at hl 6 rfl) ?_
  obtain ⟨hin, h⟩ := h
  refine va_iast hx hb hKn.k hP hD hS 1 0 rfl rfl hin dX10_laysContract_67 (fun H locs hP hD hS => ?_)
  obtain ⟨q6, eq6⟩ : ∃ z : qS, z = up2 q5 1 (Int32.toNatClampNeg (y1 + (4 : Int32))) p4 := ⟨_, rfl⟩
  have hP : va_P G.1 vwCl (wM G a q6 ++ R) H := by rw [eq6]; exact hP
  have hD : va_D A (wM G a q6 ++ R) := by rw [eq6]; exact hD
  have h := h q6 eq6
  refine lv_aload_n hx hb dX10_laysContract_68 rfl (lv_at hl 1 rfl) ?_
  refine va_get (D := G.1) (ci := 10) (v := .ref (a 1)) (C := RX10) (T := TX10) (N := 15) hx hb hts iX10_laysContract_X10 hown hKn.k hP 0 rfl rfl 1 (by decide) (hts _ lX10_laysContract_f7) (fun _ h9 => h9) rfl dX10_laysContract_69 ?_
  refine lv_iload hx hb dX10_laysContract_72 (lv_at hl 0 rfl) ?_
  refine lv_iconst (v := (5 : Int32)) hx hb dX10_laysContract_74 (by decide) ?_
  refine lv_iadd hx hb dX10_laysContract_75 ?_
  refine lv_iload hx hb dX10_laysContract_76 (lv_at hl 7 rfl) ?_
  obtain ⟨hin, h⟩ := h
  refine va_iast hx hb hKn.k hP hD hS 1 0 rfl rfl hin dX10_laysContract_78 (fun H locs hP hD hS => ?_)
  obtain ⟨q7, eq7⟩ : ∃ z : qS, z = up2 q6 1 (Int32.toNatClampNeg (y1 + (5 : Int32))) p5 := ⟨_, rfl⟩
  have hP : va_P G.1 vwCl (wM G a q7 ++ R) H := by rw [eq7]; exact hP
  have hD : va_D A (wM G a q7 ++ R) := by rw [eq7]; exact hD
  have h := h q7 eq7
  refine lv_aload_n hx hb dX10_laysContract_79 rfl (lv_at hl 1 rfl) ?_
  refine va_get (D := G.1) (ci := 10) (v := .ref (a 1)) (C := RX10) (T := TX10) (N := 15) hx hb hts iX10_laysContract_X10 hown hKn.k hP 0 rfl rfl 1 (by decide) (hts _ lX10_laysContract_f7) (fun _ h9 => h9) rfl dX10_laysContract_80 ?_
  refine lv_bipush (v := (8 : Int32)) hx hb dX10_laysContract_83 (by decide) ?_
  refine lv_dup2_11 hx hb dX10_laysContract_85 rfl rfl ?_
  refine va_iald hx hb hKn.k hP 1 0 rfl rfl (by unfold vp_in; decide) dX10_laysContract_86 ?_
  refine lv_iconst (v := (1 : Int32)) hx hb dX10_laysContract_87 (by decide) ?_
  refine lv_iadd hx hb dX10_laysContract_88 ?_
  refine lv_topi (fun y8 ey8 => ?_)
  have h := h y8 ey8
  refine va_iast hx hb hKn.k hP hD hS 1 0 rfl rfl (by unfold vp_in; decide) dX10_laysContract_89 (fun H locs hP hD hS => ?_)
  obtain ⟨q9, eq9⟩ : ∃ z : qS, z = up2 q7 1 8 y8 := ⟨_, rfl⟩
  have hP : va_P G.1 vwCl (wM G a q9 ++ R) H := by rw [eq9]; exact hP
  have hD : va_D A (wM G a q9 ++ R) := by rw [eq9]; exact hD
  have h := h q9 eq9
  refine lv_aload_n hx hb dX10_laysContract_90 rfl (lv_at hl 1 rfl) ?_
  refine va_get (D := G.1) (ci := 10) (v := .ref (a 1)) (C := RX10) (T := TX10) (N := 15) hx hb hts iX10_laysContract_X10 hown hKn.k hP 0 rfl rfl 1 (by decide) (hts _ lX10_laysContract_f7) (fun _ h9 => h9) rfl dX10_laysContract_91 ?_
  refine lv_bipush (v := (8 : Int32)) hx hb dX10_laysContract_94 (by decide) ?_
  refine va_iald hx hb hKn.k hP 1 0 rfl rfl (by unfold vp_in; decide) dX10_laysContract_96 ?_
  refine lv_iconst (v := (1 : Int32)) hx hb dX10_laysContract_97 (by decide) ?_
  refine lv_isub hx hb dX10_laysContract_98 ?_
  exact hret _ _ _ _ _ _ h hP hD hS dX10_laysContract_99
abbrev rmX10_contract : Room := { frames := 2, cells := 0, slots := 0, locals := 49 }
theorem lX10_contract_f32 : Cond.fieldLink RX10 32 "QuarryBlendsModel" "thrown" "I" ∈ wsX10_contract := by decide +kernel
theorem iX10_contract_X10 : ∀ w ∈ wsX100, w ∈ wsX10_contract := by decide +kernel
set_option maxHeartbeats 4000000 in
set_option maxRecDepth 100000 in
theorem mX10_contract (l : Launch) (G : qG) (k : Int32 → qS → Prop) (R : va_W) (a : Nat → Nat) (q : qS) (sz : Nat) (p0 : Int32) (p1 : Int32) (p2 : Int32) (p3 : Int32) (p4 : Int32) (p5 : Int32) : Met l yX10_contract wsX10_contract rmX10_contract (qPc G [.ref (a 0), .int p0, .int p1, .int p2, .int p3, .int p4, .int p5] (wM G a q ++ R) sz (wX10_contract k q p0 p1 p2 p3 p4 p5)) (qQi G (wM G a q ++ R) sz (fun (r : Int32) (u : qS) => k r u) (fun (u : qS) => wM G a u ++ R)) 0 0 (va_A (wM G a q ++ R) sz) := by
  refine Met.ofW (cc := cX10_contract) (maxL := 8) (ret := (some .int)) (by decide) rfl ?_
  intro p e s m args below meth c s₁ B hml hv
  obtain ⟨rfl, hsz, hP, hD0, hKn0, h⟩ := hv
  have hx := B.exec
  have hb := B.bytes
  have hr := B.returns
  have hts := atoms_spec (ws := wsX10_contract) B.pre
  have hown : s.vm.findClass RX10 = some m.cls := findClass_of_methodNamed B.named
  have hlocks := B.notSynchronized
  subst hsz
  have hD := hD0.self (sz := s.heap.size)
  generalize hAe : va_A (wM G a q ++ R) s.heap.size = A at hD hKn0 ⊢
  have hA : ∀ q : Nat, s.heap.size ≤ q → A q := fun q h => by rw [← hAe]; exact Or.inr h
  have hKn : qKn G A s s.heap := hKn0
  have hS : va_S A s.heap s.heap [] := va_S.rf
  have hret : ∀ (r : Int32) (q' : qS) (H : Heap) (locs : List Loc) (ls : Array Slot) (pc : Nat), k r q' → va_P G.1 vwCl (wM G a q' ++ R) H → va_D A (wM G a q' ++ R) → va_S A s.heap H locs → decode cX10_contract pc = .ok (.ireturn, 1) → W p l e rmX10_contract s m #[.ref (a 0), .int p0, .int p1, .int p2, .int p3, .int p4, .int p5] below meth c H locs 0 0 (MQ below (qQi G (wM G a q ++ R) s.heap.size (fun (r : Int32) (u : qS) => k r u) (fun (u : qS) => wM G a u ++ R)) #[.ref (a 0), .int p0, .int p1, .int p2, .int p3, .int p4, .int p5] s 0 0 A) (F0 m pc ls [.int r]) := fun r q' H locs ls pc hk hP hD hS hd => W.iret hx hb hr (fun t ht hW => q_ri (u := (q' : qS)) hAe hk hP hD hS ht) hS.2.2 hd
  have hl := lv_entry ([.ref (a 0), .int p0, .int p1, .int p2, .int p3, .int p4, .int p5]) (n := 8) (Nat.le_of_ble_eq_true rfl)
  rw [lg_entry_eq]
  generalize (lg_sl ([.ref (a 0), .int p0, .int p1, .int p2, .int p3, .int p4, .int p5]) ++ List.replicate (8 - (lg_sl ([.ref (a 0), .int p0, .int p1, .int p2, .int p3, .int p4, .int p5])).length) Slot.unset).toArray = ls at hl ⊢
  have hl : lv_has ls 8 [(0, .ref (a 0)), (1, .int p0), (2, .int p1), (3, .int p2), (4, .int p3), (5, .int p4), (6, .int p5)] := hl
  unfold wX10_contract at h
  show W p l e rmX10_contract s m #[.ref (a 0), .int p0, .int p1, .int p2, .int p3, .int p4, .int p5] below meth c s.heap [] 0 0 _ _
  refine lv_aload_n hx hb dX10_contract_0 rfl (lv_at hl 0 rfl) ?_
  refine lv_iconst (v := (0 : Int32)) hx hb dX10_contract_1 (by decide) ?_
  refine va_put (D := G.1) (ci := 10) (v := .int (0 : Int32)) (ty := .int) (C := RX10) (T := TX10) (N := 15) hx hb hts iX10_contract_X10 tyX10 tyX10_ok nmX10 hown hKn.k hP hD hS 0 rfl rfl 0 (by decide) (hts _ lX10_contract_f32) (fun _ h9 => h9) rfl (by decide +kernel) rfl rfl (Nat.le_of_ble_eq_true rfl) dX10_contract_2 (fun H locs hP hD hS => ?_)
  obtain ⟨q1, eq1⟩ : ∃ z : qS, z = up2 q 0 0 (0 : Int32) := ⟨_, rfl⟩
  have hP : va_P G.1 vwCl (wM G a q1 ++ R) H := by rw [eq1]; exact hP
  have hD : va_D A (wM G a q1 ++ R) := by rw [eq1]; exact hD
  have h := h q1 eq1
  refine lv_aload_n hx hb dX10_contract_5 rfl (lv_at hl 0 rfl) ?_
  refine lv_iload_n hx hb dX10_contract_6 rfl (lv_at hl 1 rfl) ?_
  refine lv_iload_n hx hb dX10_contract_7 rfl (lv_at hl 2 rfl) ?_
  refine lv_iload_n hx hb dX10_contract_8 rfl (lv_at hl 3 rfl) ?_
  refine lv_iload hx hb dX10_contract_9 (lv_at hl 4 rfl) ?_
  refine lv_iload hx hb dX10_contract_11 (lv_at hl 5 rfl) ?_
  refine lv_iload hx hb dX10_contract_13 (lv_at hl 6 rfl) ?_
  refine qc_vi (As := [.int p0, .int p1, .int p2, .int p3, .int p4, .int p5]) (rest := []) ⟨hx, hb, hml, hown, hts⟩ (mX10_refusesContract l G _ _ a q1 _ p0 p1 p2 p3 p4 p5) (cwV 6 hts gX10_contract_X10_refusesContract rfl rfl rfl (by decide +kernel) ⟨Nat.le_of_ble_eq_true rfl, Nat.le_of_ble_eq_true rfl⟩) hP hD hS hA hKn 0 10 rfl rfl rfl h rfl hl.1 rfl (Nat.le_of_ble_eq_true rfl) dX10_contract_15 ⟨Nat.zero_le _, Nat.zero_le _⟩ (fun r2 q3 H locs h hP hD hS => ?_)
  have hP : va_P G.1 vwCl (wM G a q3 ++ R) H := hP
  have hD : va_D A (wM G a q3 ++ R) := hD
  refine lv_istore (lv' := [(7, .int r2), (0, .ref (a 0)), (1, .int p0), (2, .int p1), (3, .int p2), (4, .int p3), (5, .int p4), (6, .int p5)]) hx hb dX10_contract_18 hl (by decide) rfl (fun ls hl => ?_)
  refine lv_iload hx hb dX10_contract_20 (lv_at hl 0 rfl) ?_
  refine lv_if_eq (tgt := 28) hx hb dX10_contract_22 (by decide) (fun c1 => ?_) (fun c1 => ?_)
  · have h := h.1 c1
    refine lv_aload_n hx hb dX10_contract_28 rfl (lv_at hl 1 rfl) ?_
    refine qc_vv (As := []) (rest := []) ⟨hx, hb, hml, hown, hts⟩ (mX10_records l G _ _ a q3 _ ) (cwV 0 hts gX10_contract_X10_records rfl rfl rfl (by decide +kernel) ⟨Nat.le_of_ble_eq_true rfl, Nat.le_of_ble_eq_true rfl⟩) hP hD hS hA hKn 0 10 rfl rfl rfl h rfl hl.1 rfl (Nat.le_of_ble_eq_true rfl) dX10_contract_29 ⟨Nat.zero_le _, Nat.zero_le _⟩ (fun q5 H locs h hP hD hS => ?_)
    have hP : va_P G.1 vwCl (wM G a q5 ++ R) H := hP
    have hD : va_D A (wM G a q5 ++ R) := hD
    refine lv_aload_n hx hb dX10_contract_32 rfl (lv_at hl 1 rfl) ?_
    refine lv_iload_n hx hb dX10_contract_33 rfl (lv_at hl 2 rfl) ?_
    refine lv_iload_n hx hb dX10_contract_34 rfl (lv_at hl 3 rfl) ?_
    refine lv_iload_n hx hb dX10_contract_35 rfl (lv_at hl 4 rfl) ?_
    refine lv_iload hx hb dX10_contract_36 (lv_at hl 5 rfl) ?_
    refine lv_iload hx hb dX10_contract_38 (lv_at hl 6 rfl) ?_
    refine lv_iload hx hb dX10_contract_40 (lv_at hl 7 rfl) ?_
    refine qc_vi (As := [.int p0, .int p1, .int p2, .int p3, .int p4, .int p5]) (rest := []) ⟨hx, hb, hml, hown, hts⟩ (mX10_laysContract l G _ _ a q5 _ p0 p1 p2 p3 p4 p5) (cwV 6 hts gX10_contract_X10_laysContract rfl rfl rfl (by decide +kernel) ⟨Nat.le_of_ble_eq_true rfl, Nat.le_of_ble_eq_true rfl⟩) hP hD hS hA hKn 0 10 rfl rfl rfl h rfl hl.1 rfl (Nat.le_of_ble_eq_true rfl) dX10_contract_42 ⟨Nat.zero_le _, Nat.zero_le _⟩ (fun r6 q7 H locs h hP hD hS => ?_)
    have hP : va_P G.1 vwCl (wM G a q7 ++ R) H := hP
    have hD : va_D A (wM G a q7 ++ R) := hD
    exact hret _ _ _ _ _ _ h hP hD hS dX10_contract_45
  · have h := h.2 c1
    refine lv_iload hx hb dX10_contract_25 (lv_at hl 0 rfl) ?_
    exact hret _ _ _ _ _ _ h hP hD hS dX10_contract_27
abbrev rmX10_isContract : Room := { frames := 1, cells := 0, slots := 0, locals := 22 }
theorem lX10_isContract_f7 : Cond.fieldLink RX10 7 "QuarryBlendsModel" "s" "[I" ∈ wsX10_isContract := by decide +kernel
theorem iX10_isContract_X10 : ∀ w ∈ wsX100, w ∈ wsX10_isContract := by decide +kernel
set_option maxHeartbeats 4000000 in
set_option maxRecDepth 100000 in
theorem mX10_isContract (l : Launch) (G : qG) (k : Int32 → qS → Prop) (R : va_W) (a : Nat → Nat) (q : qS) (sz : Nat) (p0 : Int32) : Met l yX10_isContract wsX10_isContract rmX10_isContract (qPc G [.ref (a 0), .int p0] (wM G a q ++ R) sz (wX10_isContract k q p0)) (qQi G (wM G a q ++ R) sz (fun (r : Int32) (u : qS) => k r u) (fun (u : qS) => wM G a u ++ R)) 0 0 (va_A (wM G a q ++ R) sz) := by
  refine Met.ofW (cc := cX10_isContract) (maxL := 2) (ret := (some .boolean)) (by decide) rfl ?_
  intro p e s m args below meth c s₁ B hml hv
  obtain ⟨rfl, hsz, hP, hD0, hKn0, h⟩ := hv
  have hx := B.exec
  have hb := B.bytes
  have hr := B.returns
  have hts := atoms_spec (ws := wsX10_isContract) B.pre
  have hown : s.vm.findClass RX10 = some m.cls := findClass_of_methodNamed B.named
  have hlocks := B.notSynchronized
  subst hsz
  have hD := hD0.self (sz := s.heap.size)
  generalize hAe : va_A (wM G a q ++ R) s.heap.size = A at hD hKn0 ⊢
  have hA : ∀ q : Nat, s.heap.size ≤ q → A q := fun q h => by rw [← hAe]; exact Or.inr h
  have hKn : qKn G A s s.heap := hKn0
  have hS : va_S A s.heap s.heap [] := va_S.rf
  have hret : ∀ (r : Int32) (q' : qS) (H : Heap) (locs : List Loc) (ls : Array Slot) (pc : Nat), k r q' → narrow .boolean (.int r) = .int r → va_P G.1 vwCl (wM G a q' ++ R) H → va_D A (wM G a q' ++ R) → va_S A s.heap H locs → decode cX10_isContract pc = .ok (.ireturn, 1) → W p l e rmX10_isContract s m #[.ref (a 0), .int p0] below meth c H locs 0 0 (MQ below (qQi G (wM G a q ++ R) s.heap.size (fun (r : Int32) (u : qS) => k r u) (fun (u : qS) => wM G a u ++ R)) #[.ref (a 0), .int p0] s 0 0 A) (F0 m pc ls [.int r]) := fun r q' H locs ls pc hk hn hP hD hS hd => W.zret hx hb hr hn (fun t ht hW => q_ri (u := (q' : qS)) hAe hk hP hD hS ht) hS.2.2 hd
  have hl := lv_entry ([.ref (a 0), .int p0]) (n := 2) (Nat.le_of_ble_eq_true rfl)
  rw [lg_entry_eq]
  generalize (lg_sl ([.ref (a 0), .int p0]) ++ List.replicate (2 - (lg_sl ([.ref (a 0), .int p0])).length) Slot.unset).toArray = ls at hl ⊢
  have hl : lv_has ls 2 [(0, .ref (a 0)), (1, .int p0)] := hl
  unfold wX10_isContract at h
  show W p l e rmX10_isContract s m #[.ref (a 0), .int p0] below meth c s.heap [] 0 0 _ _
  refine lv_iload_n hx hb dX10_isContract_0 rfl (lv_at hl 1 rfl) ?_
  refine lv_iconst (v := (0 : Int32)) hx hb dX10_isContract_1 (by decide) ?_
  refine lv_aload_n hx hb dX10_isContract_2 rfl (lv_at hl 0 rfl) ?_
  refine va_get (D := G.1) (ci := 10) (v := .ref (a 1)) (C := RX10) (T := TX10) (N := 15) hx hb hts iX10_isContract_X10 hown hKn.k hP 0 rfl rfl 1 (by decide) (hts _ lX10_isContract_f7) (fun _ h9 => h9) rfl dX10_isContract_3 ?_
  refine lv_bipush (v := (8 : Int32)) hx hb dX10_isContract_6 (by decide) ?_
  refine va_iald hx hb hKn.k hP 1 0 rfl rfl (by unfold vp_in; decide) dX10_isContract_8 ?_
  refine lv_iconst (v := (1 : Int32)) hx hb dX10_isContract_9 (by decide) ?_
  refine lv_isub hx hb dX10_isContract_10 ?_
  refine qc_si (As := [.int p0, .int (0 : Int32), .int ((q 1 8) - (1 : Int32))]) (rest := []) ⟨hx, hb, hml, hown, hts⟩ (mX10_in l G _ _ _ p0 (0 : Int32) ((q 1 8) - (1 : Int32))) (cwS 3 hts gX10_isContract_X10_in rfl rfl rfl (by decide +kernel) ⟨Nat.le_of_ble_eq_true rfl, Nat.le_of_ble_eq_true rfl⟩) hP hD hS hA hKn h rfl hl.1 rfl (Nat.le_of_ble_eq_true rfl) dX10_isContract_11 ⟨Nat.zero_le _, Nat.zero_le _⟩ (fun r1 _ H locs h hP hD hS => ?_)
  have hP : va_P G.1 vwCl (wM G a q ++ R) H := hP
  have hD : va_D A (wM G a q ++ R) := hD
  obtain ⟨hn1, h⟩ := h
  exact hret _ _ _ _ _ _ h hn1 hP hD hS dX10_isContract_14
abbrev rmX10_drop : Room := { frames := 2, cells := 0, slots := 0, locals := 43 }
theorem lX10_drop_f32 : Cond.fieldLink RX10 32 "QuarryBlendsModel" "thrown" "I" ∈ wsX10_drop := by decide +kernel
theorem lX10_drop_f7 : Cond.fieldLink RX10 7 "QuarryBlendsModel" "s" "[I" ∈ wsX10_drop := by decide +kernel
theorem iX10_drop_X10 : ∀ w ∈ wsX100, w ∈ wsX10_drop := by decide +kernel
set_option maxHeartbeats 4000000 in
set_option maxRecDepth 100000 in
theorem mX10_drop (l : Launch) (G : qG) (k : Int32 → qS → Prop) (R : va_W) (a : Nat → Nat) (q : qS) (sz : Nat) (p0 : Int32) : Met l yX10_drop wsX10_drop rmX10_drop (qPc G [.ref (a 0), .int p0] (wM G a q ++ R) sz (wX10_drop k q p0)) (qQi G (wM G a q ++ R) sz (fun (r : Int32) (u : qS) => k r u) (fun (u : qS) => wM G a u ++ R)) 0 0 (va_A (wM G a q ++ R) sz) := by
  refine Met.ofW (cc := cX10_drop) (maxL := 2) (ret := (some .int)) (by decide) rfl ?_
  intro p e s m args below meth c s₁ B hml hv
  obtain ⟨rfl, hsz, hP, hD0, hKn0, h⟩ := hv
  have hx := B.exec
  have hb := B.bytes
  have hr := B.returns
  have hts := atoms_spec (ws := wsX10_drop) B.pre
  have hown : s.vm.findClass RX10 = some m.cls := findClass_of_methodNamed B.named
  have hlocks := B.notSynchronized
  subst hsz
  have hD := hD0.self (sz := s.heap.size)
  generalize hAe : va_A (wM G a q ++ R) s.heap.size = A at hD hKn0 ⊢
  have hA : ∀ q : Nat, s.heap.size ≤ q → A q := fun q h => by rw [← hAe]; exact Or.inr h
  have hKn : qKn G A s s.heap := hKn0
  have hS : va_S A s.heap s.heap [] := va_S.rf
  have hret : ∀ (r : Int32) (q' : qS) (H : Heap) (locs : List Loc) (ls : Array Slot) (pc : Nat), k r q' → va_P G.1 vwCl (wM G a q' ++ R) H → va_D A (wM G a q' ++ R) → va_S A s.heap H locs → decode cX10_drop pc = .ok (.ireturn, 1) → W p l e rmX10_drop s m #[.ref (a 0), .int p0] below meth c H locs 0 0 (MQ below (qQi G (wM G a q ++ R) s.heap.size (fun (r : Int32) (u : qS) => k r u) (fun (u : qS) => wM G a u ++ R)) #[.ref (a 0), .int p0] s 0 0 A) (F0 m pc ls [.int r]) := fun r q' H locs ls pc hk hP hD hS hd => W.iret hx hb hr (fun t ht hW => q_ri (u := (q' : qS)) hAe hk hP hD hS ht) hS.2.2 hd
  have hl := lv_entry ([.ref (a 0), .int p0]) (n := 2) (Nat.le_of_ble_eq_true rfl)
  rw [lg_entry_eq]
  generalize (lg_sl ([.ref (a 0), .int p0]) ++ List.replicate (2 - (lg_sl ([.ref (a 0), .int p0])).length) Slot.unset).toArray = ls at hl ⊢
  have hl : lv_has ls 2 [(0, .ref (a 0)), (1, .int p0)] := hl
  unfold wX10_drop at h
  show W p l e rmX10_drop s m #[.ref (a 0), .int p0] below meth c s.heap [] 0 0 _ _
  refine lv_aload_n hx hb dX10_drop_0 rfl (lv_at hl 0 rfl) ?_
  refine lv_iconst (v := (0 : Int32)) hx hb dX10_drop_1 (by decide) ?_
  refine va_put (D := G.1) (ci := 10) (v := .int (0 : Int32)) (ty := .int) (C := RX10) (T := TX10) (N := 15) hx hb hts iX10_drop_X10 tyX10 tyX10_ok nmX10 hown hKn.k hP hD hS 0 rfl rfl 0 (by decide) (hts _ lX10_drop_f32) (fun _ h9 => h9) rfl (by decide +kernel) rfl rfl (Nat.le_of_ble_eq_true rfl) dX10_drop_2 (fun H locs hP hD hS => ?_)
  obtain ⟨q1, eq1⟩ : ∃ z : qS, z = up2 q 0 0 (0 : Int32) := ⟨_, rfl⟩
  have hP : va_P G.1 vwCl (wM G a q1 ++ R) H := by rw [eq1]; exact hP
  have hD : va_D A (wM G a q1 ++ R) := by rw [eq1]; exact hD
  have h := h q1 eq1
  refine lv_aload_n hx hb dX10_drop_5 rfl (lv_at hl 0 rfl) ?_
  refine lv_iload_n hx hb dX10_drop_6 rfl (lv_at hl 1 rfl) ?_
  refine qc_vi (As := [.int p0]) (rest := []) ⟨hx, hb, hml, hown, hts⟩ (mX10_isContract l G _ _ a q1 _ p0) (cwV 1 hts gX10_drop_X10_isContract rfl rfl rfl (by decide +kernel) ⟨Nat.le_of_ble_eq_true rfl, Nat.le_of_ble_eq_true rfl⟩) hP hD hS hA hKn 0 10 rfl rfl rfl h rfl hl.1 rfl (Nat.le_of_ble_eq_true rfl) dX10_drop_7 ⟨Nat.zero_le _, Nat.zero_le _⟩ (fun r2 q3 H locs h hP hD hS => ?_)
  have hP : va_P G.1 vwCl (wM G a q3 ++ R) H := hP
  have hD : va_D A (wM G a q3 ++ R) := hD
  refine lv_if_ne (tgt := 15) hx hb dX10_drop_10 (by decide) (fun c1 => ?_) (fun c1 => ?_)
  · have h := h.1 c1
    refine lv_aload_n hx hb dX10_drop_15 rfl (lv_at hl 0 rfl) ?_
    refine qc_vv (As := []) (rest := []) ⟨hx, hb, hml, hown, hts⟩ (mX10_records l G _ _ a q3 _ ) (cwV 0 hts gX10_drop_X10_records rfl rfl rfl (by decide +kernel) ⟨Nat.le_of_ble_eq_true rfl, Nat.le_of_ble_eq_true rfl⟩) hP hD hS hA hKn 0 10 rfl rfl rfl h rfl hl.1 rfl (Nat.le_of_ble_eq_true rfl) dX10_drop_16 ⟨Nat.zero_le _, Nat.zero_le _⟩ (fun q5 H locs h hP hD hS => ?_)
    have hP : va_P G.1 vwCl (wM G a q5 ++ R) H := hP
    have hD : va_D A (wM G a q5 ++ R) := hD
    refine lv_aload_n hx hb dX10_drop_19 rfl (lv_at hl 0 rfl) ?_
    refine lv_iload_n hx hb dX10_drop_20 rfl (lv_at hl 1 rfl) ?_
    refine qc_vv (As := [.int p0]) (rest := []) ⟨hx, hb, hml, hown, hts⟩ (mX10_dropsContract l G _ _ a q5 _ p0) (cwV 1 hts gX10_drop_X10_dropsContract rfl rfl rfl (by decide +kernel) ⟨Nat.le_of_ble_eq_true rfl, Nat.le_of_ble_eq_true rfl⟩) hP hD hS hA hKn 0 10 rfl rfl rfl h rfl hl.1 rfl (Nat.le_of_ble_eq_true rfl) dX10_drop_21 ⟨Nat.zero_le _, Nat.zero_le _⟩ (fun q7 H locs h hP hD hS => ?_)
    have hP : va_P G.1 vwCl (wM G a q7 ++ R) H := hP
    have hD : va_D A (wM G a q7 ++ R) := hD
    refine lv_aload_n hx hb dX10_drop_24 rfl (lv_at hl 0 rfl) ?_
    refine va_get (D := G.1) (ci := 10) (v := .ref (a 1)) (C := RX10) (T := TX10) (N := 15) hx hb hts iX10_drop_X10 hown hKn.k hP 0 rfl rfl 1 (by decide) (hts _ lX10_drop_f7) (fun _ h9 => h9) rfl dX10_drop_25 ?_
    refine lv_bipush (v := (8 : Int32)) hx hb dX10_drop_28 (by decide) ?_
    refine va_iald hx hb hKn.k hP 1 0 rfl rfl (by unfold vp_in; decide) dX10_drop_30 ?_
    exact hret _ _ _ _ _ _ h hP hD hS dX10_drop_31
  · have h := h.2 c1
    refine lv_iconst (v := (-1 : Int32)) hx hb dX10_drop_13 (by decide) ?_
    exact hret _ _ _ _ _ _ h hP hD hS dX10_drop_14
abbrev rmX10_mend : Room := { frames := 1, cells := 0, slots := 0, locals := 21 }
theorem lX10_mend_f32 : Cond.fieldLink RX10 32 "QuarryBlendsModel" "thrown" "I" ∈ wsX10_mend := by decide +kernel
theorem lX10_mend_f7 : Cond.fieldLink RX10 7 "QuarryBlendsModel" "s" "[I" ∈ wsX10_mend := by decide +kernel
theorem iX10_mend_X10 : ∀ w ∈ wsX100, w ∈ wsX10_mend := by decide +kernel
set_option maxHeartbeats 4000000 in
set_option maxRecDepth 100000 in
theorem mX10_mend (l : Launch) (G : qG) (k : Int32 → qS → Prop) (R : va_W) (a : Nat → Nat) (q : qS) (sz : Nat) : Met l yX10_mend wsX10_mend rmX10_mend (qPc G [.ref (a 0)] (wM G a q ++ R) sz (wX10_mend k q)) (qQi G (wM G a q ++ R) sz (fun (r : Int32) (u : qS) => k r u) (fun (u : qS) => wM G a u ++ R)) 0 0 (va_A (wM G a q ++ R) sz) := by
  refine Met.ofW (cc := cX10_mend) (maxL := 2) (ret := (some .int)) (by decide) rfl ?_
  intro p e s m args below meth c s₁ B hml hv
  obtain ⟨rfl, hsz, hP, hD0, hKn0, h⟩ := hv
  have hx := B.exec
  have hb := B.bytes
  have hr := B.returns
  have hts := atoms_spec (ws := wsX10_mend) B.pre
  have hown : s.vm.findClass RX10 = some m.cls := findClass_of_methodNamed B.named
  have hlocks := B.notSynchronized
  subst hsz
  have hD := hD0.self (sz := s.heap.size)
  generalize hAe : va_A (wM G a q ++ R) s.heap.size = A at hD hKn0 ⊢
  have hA : ∀ q : Nat, s.heap.size ≤ q → A q := fun q h => by rw [← hAe]; exact Or.inr h
  have hKn : qKn G A s s.heap := hKn0
  have hS : va_S A s.heap s.heap [] := va_S.rf
  have hret : ∀ (r : Int32) (q' : qS) (H : Heap) (locs : List Loc) (ls : Array Slot) (pc : Nat), k r q' → va_P G.1 vwCl (wM G a q' ++ R) H → va_D A (wM G a q' ++ R) → va_S A s.heap H locs → decode cX10_mend pc = .ok (.ireturn, 1) → W p l e rmX10_mend s m #[.ref (a 0)] below meth c H locs 0 0 (MQ below (qQi G (wM G a q ++ R) s.heap.size (fun (r : Int32) (u : qS) => k r u) (fun (u : qS) => wM G a u ++ R)) #[.ref (a 0)] s 0 0 A) (F0 m pc ls [.int r]) := fun r q' H locs ls pc hk hP hD hS hd => W.iret hx hb hr (fun t ht hW => q_ri (u := (q' : qS)) hAe hk hP hD hS ht) hS.2.2 hd
  have hl := lv_entry ([.ref (a 0)]) (n := 2) (Nat.le_of_ble_eq_true rfl)
  rw [lg_entry_eq]
  generalize (lg_sl ([.ref (a 0)]) ++ List.replicate (2 - (lg_sl ([.ref (a 0)])).length) Slot.unset).toArray = ls at hl ⊢
  have hl : lv_has ls 2 [(0, .ref (a 0))] := hl
  unfold wX10_mend at h
  show W p l e rmX10_mend s m #[.ref (a 0)] below meth c s.heap [] 0 0 _ _
  refine lv_aload_n hx hb dX10_mend_0 rfl (lv_at hl 0 rfl) ?_
  refine lv_iconst (v := (0 : Int32)) hx hb dX10_mend_1 (by decide) ?_
  refine va_put (D := G.1) (ci := 10) (v := .int (0 : Int32)) (ty := .int) (C := RX10) (T := TX10) (N := 15) hx hb hts iX10_mend_X10 tyX10 tyX10_ok nmX10 hown hKn.k hP hD hS 0 rfl rfl 0 (by decide) (hts _ lX10_mend_f32) (fun _ h9 => h9) rfl (by decide +kernel) rfl rfl (Nat.le_of_ble_eq_true rfl) dX10_mend_2 (fun H locs hP hD hS => ?_)
  obtain ⟨q1, eq1⟩ : ∃ z : qS, z = up2 q 0 0 (0 : Int32) := ⟨_, rfl⟩
  have hP : va_P G.1 vwCl (wM G a q1 ++ R) H := by rw [eq1]; exact hP
  have hD : va_D A (wM G a q1 ++ R) := by rw [eq1]; exact hD
  have h := h q1 eq1
  refine lv_aload_n hx hb dX10_mend_5 rfl (lv_at hl 0 rfl) ?_
  refine qc_vv (As := []) (rest := []) ⟨hx, hb, hml, hown, hts⟩ (mX10_records l G _ _ a q1 _ ) (cwV 0 hts gX10_mend_X10_records rfl rfl rfl (by decide +kernel) ⟨Nat.le_of_ble_eq_true rfl, Nat.le_of_ble_eq_true rfl⟩) hP hD hS hA hKn 0 10 rfl rfl rfl h rfl hl.1 rfl (Nat.le_of_ble_eq_true rfl) dX10_mend_6 ⟨Nat.zero_le _, Nat.zero_le _⟩ (fun q3 H locs h hP hD hS => ?_)
  have hP : va_P G.1 vwCl (wM G a q3 ++ R) H := hP
  have hD : va_D A (wM G a q3 ++ R) := hD
  refine lv_aload_n hx hb dX10_mend_9 rfl (lv_at hl 0 rfl) ?_
  refine va_get (D := G.1) (ci := 10) (v := .ref (a 1)) (C := RX10) (T := TX10) (N := 15) hx hb hts iX10_mend_X10 hown hKn.k hP 0 rfl rfl 1 (by decide) (hts _ lX10_mend_f7) (fun _ h9 => h9) rfl dX10_mend_10 ?_
  refine lv_bipush (v := (10 : Int32)) hx hb dX10_mend_13 (by decide) ?_
  refine va_iald hx hb hKn.k hP 1 0 rfl rfl (by unfold vp_in; decide) dX10_mend_15 ?_
  refine lv_topi (fun y4 ey4 => ?_)
  have h := h y4 ey4
  refine lv_istore_n (lv' := [(1, .int y4), (0, .ref (a 0))]) hx hb dX10_mend_16 rfl hl (by decide) rfl (fun ls hl => ?_)
  refine lv_aload_n hx hb dX10_mend_17 rfl (lv_at hl 1 rfl) ?_
  refine va_get (D := G.1) (ci := 10) (v := .ref (a 1)) (C := RX10) (T := TX10) (N := 15) hx hb hts iX10_mend_X10 hown hKn.k hP 0 rfl rfl 1 (by decide) (hts _ lX10_mend_f7) (fun _ h9 => h9) rfl dX10_mend_18 ?_
  refine lv_bipush (v := (10 : Int32)) hx hb dX10_mend_21 (by decide) ?_
  refine lv_iconst (v := (0 : Int32)) hx hb dX10_mend_23 (by decide) ?_
  refine va_iast hx hb hKn.k hP hD hS 1 0 rfl rfl (by unfold vp_in; decide) dX10_mend_24 (fun H locs hP hD hS => ?_)
  obtain ⟨q5, eq5⟩ : ∃ z : qS, z = up2 q3 1 10 (0 : Int32) := ⟨_, rfl⟩
  have hP : va_P G.1 vwCl (wM G a q5 ++ R) H := by rw [eq5]; exact hP
  have hD : va_D A (wM G a q5 ++ R) := by rw [eq5]; exact hD
  have h := h q5 eq5
  refine lv_iload_n hx hb dX10_mend_25 rfl (lv_at hl 0 rfl) ?_
  exact hret _ _ _ _ _ _ h hP hD hS dX10_mend_26
abbrev rmX10_refusesPass : Room := { frames := 1, cells := 0, slots := 0, locals := 22 }
theorem lX10_refusesPass_f7 : Cond.fieldLink RX10 7 "QuarryBlendsModel" "s" "[I" ∈ wsX10_refusesPass := by decide +kernel
theorem iX10_refusesPass_X10 : ∀ w ∈ wsX100, w ∈ wsX10_refusesPass := by decide +kernel
set_option maxHeartbeats 4000000 in
set_option maxRecDepth 100000 in
theorem kX10_refusesPass_b41 {p : Program} {l : Launch} {e : Env} {s : State} {m : MethodId} {args : Array Value} {below : List Frame} {meth : Method} {c : Code} {G : qG} {A : Nat → Prop} {Qf : State → Prop} {R : va_W} {a : Nat → Nat} {k : Int32 → qS → Prop} (hx : p.tables.exec = Jvm.exec) (hb : c.code = cX10_refusesPass) (hml : c.maxLocals = 2) (hown : s.vm.findClass RX10 = some m.cls) (hts : ∀ w ∈ wsX10_refusesPass, w.before args s = true) (hA : ∀ q : Nat, s.heap.size ≤ q → A q) (hKn : qKn G A s s.heap) (hret : ∀ (r : Int32) (q : qS) (H : Heap) (locs : List Loc) (ls : Array Slot) (pc : Nat), k r q → va_P G.1 vwCl (wM G a q ++ R) H → va_D A (wM G a q ++ R) → va_S A s.heap H locs → decode cX10_refusesPass pc = .ok (.ireturn, 1) → W p l e rmX10_refusesPass s m args below meth c H locs 0 0 Qf (F0 m pc ls [.int r])) : ∀ (q : qS) (z0 : Int32) (H : Heap) (locs : List Loc) (ls : Array Slot), wX10_refusesPass_b41 k q z0 → va_P G.1 vwCl (wM G a q ++ R) H → va_D A (wM G a q ++ R) → va_S A s.heap H locs → lv_has ls 2 [] → W p l e rmX10_refusesPass s m args below meth c H locs 0 0 Qf (F0 m 41 ls [.int z0]) := by
  intro q z0 H locs ls h hP hD hS hl
  unfold wX10_refusesPass_b41 at h
  exact hret _ _ _ _ _ _ h hP hD hS dX10_refusesPass_41
set_option maxHeartbeats 4000000 in
set_option maxRecDepth 100000 in
theorem mX10_refusesPass (l : Launch) (G : qG) (k : Int32 → qS → Prop) (R : va_W) (a : Nat → Nat) (q : qS) (sz : Nat) (p0 : Int32) : Met l yX10_refusesPass wsX10_refusesPass rmX10_refusesPass (qPc G [.ref (a 0), .int p0] (wM G a q ++ R) sz (wX10_refusesPass k q p0)) (qQi G (wM G a q ++ R) sz (fun (r : Int32) (u : qS) => k r u) (fun (u : qS) => wM G a u ++ R)) 0 0 (va_A (wM G a q ++ R) sz) := by
  refine Met.ofW (cc := cX10_refusesPass) (maxL := 2) (ret := (some .int)) (by decide) rfl ?_
  intro p e s m args below meth c s₁ B hml hv
  obtain ⟨rfl, hsz, hP, hD0, hKn0, h⟩ := hv
  have hx := B.exec
  have hb := B.bytes
  have hr := B.returns
  have hts := atoms_spec (ws := wsX10_refusesPass) B.pre
  have hown : s.vm.findClass RX10 = some m.cls := findClass_of_methodNamed B.named
  have hlocks := B.notSynchronized
  subst hsz
  have hD := hD0.self (sz := s.heap.size)
  generalize hAe : va_A (wM G a q ++ R) s.heap.size = A at hD hKn0 ⊢
  have hA : ∀ q : Nat, s.heap.size ≤ q → A q := fun q h => by rw [← hAe]; exact Or.inr h
  have hKn : qKn G A s s.heap := hKn0
  have hS : va_S A s.heap s.heap [] := va_S.rf
  have hret : ∀ (r : Int32) (q' : qS) (H : Heap) (locs : List Loc) (ls : Array Slot) (pc : Nat), k r q' → va_P G.1 vwCl (wM G a q' ++ R) H → va_D A (wM G a q' ++ R) → va_S A s.heap H locs → decode cX10_refusesPass pc = .ok (.ireturn, 1) → W p l e rmX10_refusesPass s m #[.ref (a 0), .int p0] below meth c H locs 0 0 (MQ below (qQi G (wM G a q ++ R) s.heap.size (fun (r : Int32) (u : qS) => k r u) (fun (u : qS) => wM G a u ++ R)) #[.ref (a 0), .int p0] s 0 0 A) (F0 m pc ls [.int r]) := fun r q' H locs ls pc hk hP hD hS hd => W.iret hx hb hr (fun t ht hW => q_ri (u := (q' : qS)) hAe hk hP hD hS ht) hS.2.2 hd
  have hl := lv_entry ([.ref (a 0), .int p0]) (n := 2) (Nat.le_of_ble_eq_true rfl)
  rw [lg_entry_eq]
  generalize (lg_sl ([.ref (a 0), .int p0]) ++ List.replicate (2 - (lg_sl ([.ref (a 0), .int p0])).length) Slot.unset).toArray = ls at hl ⊢
  have hl : lv_has ls 2 [(0, .ref (a 0)), (1, .int p0)] := hl
  unfold wX10_refusesPass at h
  show W p l e rmX10_refusesPass s m #[.ref (a 0), .int p0] below meth c s.heap [] 0 0 _ _
  refine lv_iload_n hx hb dX10_refusesPass_0 rfl (lv_at hl 1 rfl) ?_
  refine lv_iconst (v := (1 : Int32)) hx hb dX10_refusesPass_1 (by decide) ?_
  refine lv_bipush (v := (30 : Int32)) hx hb dX10_refusesPass_2 (by decide) ?_
  refine qc_si (As := [.int p0, .int (1 : Int32), .int (30 : Int32)]) (rest := []) ⟨hx, hb, hml, hown, hts⟩ (mX10_in l G _ _ _ p0 (1 : Int32) (30 : Int32)) (cwS 3 hts gX10_refusesPass_X10_in rfl rfl rfl (by decide +kernel) ⟨Nat.le_of_ble_eq_true rfl, Nat.le_of_ble_eq_true rfl⟩) hP hD hS hA hKn h rfl hl.1 rfl (Nat.le_of_ble_eq_true rfl) dX10_refusesPass_4 ⟨Nat.zero_le _, Nat.zero_le _⟩ (fun r1 _ H locs h hP hD hS => ?_)
  have hP : va_P G.1 vwCl (wM G a q ++ R) H := hP
  have hD : va_D A (wM G a q ++ R) := hD
  refine lv_if_ne (tgt := 13) hx hb dX10_refusesPass_7 (by decide) (fun c1 => ?_) (fun c1 => ?_)
  · have h := h.1 c1
    refine lv_aload_n hx hb dX10_refusesPass_13 rfl (lv_at hl 0 rfl) ?_
    refine va_get (D := G.1) (ci := 10) (v := .ref (a 1)) (C := RX10) (T := TX10) (N := 15) hx hb hts iX10_refusesPass_X10 hown hKn.k hP 0 rfl rfl 1 (by decide) (hts _ lX10_refusesPass_f7) (fun _ h9 => h9) rfl dX10_refusesPass_14 ?_
    refine lv_bipush (v := (6 : Int32)) hx hb dX10_refusesPass_17 (by decide) ?_
    refine va_iald hx hb hKn.k hP 1 0 rfl rfl (by unfold vp_in; decide) dX10_refusesPass_19 ?_
    refine lv_iload_n hx hb dX10_refusesPass_20 rfl (lv_at hl 1 rfl) ?_
    refine lv_aload_n hx hb dX10_refusesPass_21 rfl (lv_at hl 0 rfl) ?_
    refine va_get (D := G.1) (ci := 10) (v := .ref (a 1)) (C := RX10) (T := TX10) (N := 15) hx hb hts iX10_refusesPass_X10 hown hKn.k hP 0 rfl rfl 1 (by decide) (hts _ lX10_refusesPass_f7) (fun _ h9 => h9) rfl dX10_refusesPass_22 ?_
    refine lv_iconst (v := (2 : Int32)) hx hb dX10_refusesPass_25 (by decide) ?_
    refine va_iald hx hb hKn.k hP 1 0 rfl rfl (by unfold vp_in; decide) dX10_refusesPass_26 ?_
    refine lv_imul hx hb dX10_refusesPass_27 ?_
    refine lv_iadd hx hb dX10_refusesPass_28 ?_
    refine lv_sipush (v := (9999 : Int32)) hx hb dX10_refusesPass_29 (by decide) ?_
    refine lv_icmp_le (tgt := 40) hx hb dX10_refusesPass_32 (by decide) (fun c1 => ?_) (fun c1 => ?_)
    · have h := h.1 c1
      refine lv_iconst (v := (0 : Int32)) hx hb dX10_refusesPass_40 (by decide) ?_
      exact kX10_refusesPass_b41 hx hb hml hown hts hA hKn hret q (0 : Int32) _ _ _ h hP hD hS (lv_sub hl [] rfl)
    · have h := h.2 c1
      refine lv_bipush (v := (-5 : Int32)) hx hb dX10_refusesPass_35 (by decide) ?_
      refine lv_goto (tgt := 41) hx hb dX10_refusesPass_37 (by decide) ?_
      exact kX10_refusesPass_b41 hx hb hml hown hts hA hKn hret q (-5 : Int32) _ _ _ h hP hD hS (lv_sub hl [] rfl)
  · have h := h.2 c1
    refine lv_bipush (v := (-2 : Int32)) hx hb dX10_refusesPass_10 (by decide) ?_
    exact hret _ _ _ _ _ _ h hP hD hS dX10_refusesPass_12
abbrev rmX10_pass : Room := { frames := 5, cells := 0, slots := 0, locals := 113 }
theorem lX10_pass_f32 : Cond.fieldLink RX10 32 "QuarryBlendsModel" "thrown" "I" ∈ wsX10_pass := by decide +kernel
theorem iX10_pass_X10 : ∀ w ∈ wsX100, w ∈ wsX10_pass := by decide +kernel
set_option maxHeartbeats 4000000 in
set_option maxRecDepth 100000 in
theorem mX10_pass (l : Launch) (G : qG) (k : Int32 → qS → Prop) (R : va_W) (a : Nat → Nat) (q : qS) (sz : Nat) (p0 : Int32) : Met l yX10_pass wsX10_pass rmX10_pass (qPc G [.ref (a 0), .int p0] (wM G a q ++ R) sz (wX10_pass k q p0)) (qQi G (wM G a q ++ R) sz (fun (r : Int32) (u : qS) => k r u) (fun (u : qS) => wM G a u ++ R)) 0 0 (va_A (wM G a q ++ R) sz) := by
  refine Met.ofW (cc := cX10_pass) (maxL := 3) (ret := (some .int)) (by decide) rfl ?_
  intro p e s m args below meth c s₁ B hml hv
  obtain ⟨rfl, hsz, hP, hD0, hKn0, h⟩ := hv
  have hx := B.exec
  have hb := B.bytes
  have hr := B.returns
  have hts := atoms_spec (ws := wsX10_pass) B.pre
  have hown : s.vm.findClass RX10 = some m.cls := findClass_of_methodNamed B.named
  have hlocks := B.notSynchronized
  subst hsz
  have hD := hD0.self (sz := s.heap.size)
  generalize hAe : va_A (wM G a q ++ R) s.heap.size = A at hD hKn0 ⊢
  have hA : ∀ q : Nat, s.heap.size ≤ q → A q := fun q h => by rw [← hAe]; exact Or.inr h
  have hKn : qKn G A s s.heap := hKn0
  have hS : va_S A s.heap s.heap [] := va_S.rf
  have hret : ∀ (r : Int32) (q' : qS) (H : Heap) (locs : List Loc) (ls : Array Slot) (pc : Nat), k r q' → va_P G.1 vwCl (wM G a q' ++ R) H → va_D A (wM G a q' ++ R) → va_S A s.heap H locs → decode cX10_pass pc = .ok (.ireturn, 1) → W p l e rmX10_pass s m #[.ref (a 0), .int p0] below meth c H locs 0 0 (MQ below (qQi G (wM G a q ++ R) s.heap.size (fun (r : Int32) (u : qS) => k r u) (fun (u : qS) => wM G a u ++ R)) #[.ref (a 0), .int p0] s 0 0 A) (F0 m pc ls [.int r]) := fun r q' H locs ls pc hk hP hD hS hd => W.iret hx hb hr (fun t ht hW => q_ri (u := (q' : qS)) hAe hk hP hD hS ht) hS.2.2 hd
  have hl := lv_entry ([.ref (a 0), .int p0]) (n := 3) (Nat.le_of_ble_eq_true rfl)
  rw [lg_entry_eq]
  generalize (lg_sl ([.ref (a 0), .int p0]) ++ List.replicate (3 - (lg_sl ([.ref (a 0), .int p0])).length) Slot.unset).toArray = ls at hl ⊢
  have hl : lv_has ls 3 [(0, .ref (a 0)), (1, .int p0)] := hl
  unfold wX10_pass at h
  show W p l e rmX10_pass s m #[.ref (a 0), .int p0] below meth c s.heap [] 0 0 _ _
  refine lv_aload_n hx hb dX10_pass_0 rfl (lv_at hl 0 rfl) ?_
  refine lv_iconst (v := (0 : Int32)) hx hb dX10_pass_1 (by decide) ?_
  refine va_put (D := G.1) (ci := 10) (v := .int (0 : Int32)) (ty := .int) (C := RX10) (T := TX10) (N := 15) hx hb hts iX10_pass_X10 tyX10 tyX10_ok nmX10 hown hKn.k hP hD hS 0 rfl rfl 0 (by decide) (hts _ lX10_pass_f32) (fun _ h9 => h9) rfl (by decide +kernel) rfl rfl (Nat.le_of_ble_eq_true rfl) dX10_pass_2 (fun H locs hP hD hS => ?_)
  obtain ⟨q1, eq1⟩ : ∃ z : qS, z = up2 q 0 0 (0 : Int32) := ⟨_, rfl⟩
  have hP : va_P G.1 vwCl (wM G a q1 ++ R) H := by rw [eq1]; exact hP
  have hD : va_D A (wM G a q1 ++ R) := by rw [eq1]; exact hD
  have h := h q1 eq1
  refine lv_aload_n hx hb dX10_pass_5 rfl (lv_at hl 0 rfl) ?_
  refine lv_iload_n hx hb dX10_pass_6 rfl (lv_at hl 1 rfl) ?_
  refine qc_vi (As := [.int p0]) (rest := []) ⟨hx, hb, hml, hown, hts⟩ (mX10_refusesPass l G _ _ a q1 _ p0) (cwV 1 hts gX10_pass_X10_refusesPass rfl rfl rfl (by decide +kernel) ⟨Nat.le_of_ble_eq_true rfl, Nat.le_of_ble_eq_true rfl⟩) hP hD hS hA hKn 0 10 rfl rfl rfl h rfl hl.1 rfl (Nat.le_of_ble_eq_true rfl) dX10_pass_7 ⟨Nat.zero_le _, Nat.zero_le _⟩ (fun r2 q3 H locs h hP hD hS => ?_)
  have hP : va_P G.1 vwCl (wM G a q3 ++ R) H := hP
  have hD : va_D A (wM G a q3 ++ R) := hD
  refine lv_istore_n (lv' := [(2, .int r2), (0, .ref (a 0)), (1, .int p0)]) hx hb dX10_pass_10 rfl hl (by decide) rfl (fun ls hl => ?_)
  refine lv_iload_n hx hb dX10_pass_11 rfl (lv_at hl 0 rfl) ?_
  refine lv_if_eq (tgt := 17) hx hb dX10_pass_12 (by decide) (fun c1 => ?_) (fun c1 => ?_)
  · have h := h.1 c1
    refine lv_aload_n hx hb dX10_pass_17 rfl (lv_at hl 1 rfl) ?_
    refine qc_vv (As := []) (rest := []) ⟨hx, hb, hml, hown, hts⟩ (mX10_records l G _ _ a q3 _ ) (cwV 0 hts gX10_pass_X10_records rfl rfl rfl (by decide +kernel) ⟨Nat.le_of_ble_eq_true rfl, Nat.le_of_ble_eq_true rfl⟩) hP hD hS hA hKn 0 10 rfl rfl rfl h rfl hl.1 rfl (Nat.le_of_ble_eq_true rfl) dX10_pass_18 ⟨Nat.zero_le _, Nat.zero_le _⟩ (fun q5 H locs h hP hD hS => ?_)
    have hP : va_P G.1 vwCl (wM G a q5 ++ R) H := hP
    have hD : va_D A (wM G a q5 ++ R) := hD
    refine lv_aload_n hx hb dX10_pass_21 rfl (lv_at hl 1 rfl) ?_
    refine lv_iload_n hx hb dX10_pass_22 rfl (lv_at hl 2 rfl) ?_
    refine qc_vi (As := [.int p0]) (rest := []) ⟨hx, hb, hml, hown, hts⟩ (mX10_days l G _ _ a q5 _ p0) (cwV 1 hts gX10_pass_X10_days rfl rfl rfl (by decide +kernel) ⟨Nat.le_of_ble_eq_true rfl, Nat.le_of_ble_eq_true rfl⟩) hP hD hS hA hKn 0 10 rfl rfl rfl h rfl hl.1 rfl (Nat.le_of_ble_eq_true rfl) dX10_pass_23 ⟨Nat.zero_le _, Nat.zero_le _⟩ (fun r6 q7 H locs h hP hD hS => ?_)
    have hP : va_P G.1 vwCl (wM G a q7 ++ R) H := hP
    have hD : va_D A (wM G a q7 ++ R) := hD
    exact hret _ _ _ _ _ _ h hP hD hS dX10_pass_26
  · have h := h.2 c1
    refine lv_iload_n hx hb dX10_pass_15 rfl (lv_at hl 0 rfl) ?_
    exact hret _ _ _ _ _ _ h hP hD hS dX10_pass_16
abbrev rmX10_onWayFrom : Room := { frames := 1, cells := 0, slots := 0, locals := 22 }
theorem lX10_onWayFrom_f7 : Cond.fieldLink RX10 7 "QuarryBlendsModel" "s" "[I" ∈ wsX10_onWayFrom := by decide +kernel
theorem iX10_onWayFrom_X10 : ∀ w ∈ wsX100, w ∈ wsX10_onWayFrom := by decide +kernel
set_option maxHeartbeats 4000000 in
set_option maxRecDepth 100000 in
theorem kX10_onWayFrom_b32 {p : Program} {l : Launch} {e : Env} {s : State} {m : MethodId} {args : Array Value} {below : List Frame} {meth : Method} {c : Code} {G : qG} {A : Nat → Prop} {Qf : State → Prop} {R : va_W} {a : Nat → Nat} {k : Int32 → qS → Prop} (hx : p.tables.exec = Jvm.exec) (hb : c.code = cX10_onWayFrom) (hml : c.maxLocals = 4) (hown : s.vm.findClass RX10 = some m.cls) (hts : ∀ w ∈ wsX10_onWayFrom, w.before args s = true) (hA : ∀ q : Nat, s.heap.size ≤ q → A q) (hKn : qKn G A s s.heap) (hret : ∀ (r : Int32) (q : qS) (H : Heap) (locs : List Loc) (ls : Array Slot) (pc : Nat), k r q → va_P G.1 vwCl (wM G a q ++ R) H → va_D A (wM G a q ++ R) → va_S A s.heap H locs → decode cX10_onWayFrom pc = .ok (.ireturn, 1) → W p l e rmX10_onWayFrom s m args below meth c H locs 0 0 Qf (F0 m pc ls [.int r])) {kb4 : qS → Int32 → Int32 → Int32 → Prop} (hkb4 : ∀ (q : qS) (x1 : Int32) (x2 : Int32) (x3 : Int32) (H : Heap) (locs : List Loc) (ls : Array Slot), kb4 q x1 x2 x3 → va_P G.1 vwCl (wM G a q ++ R) H → va_D A (wM G a q ++ R) → va_S A s.heap H locs → lv_has ls 4 [(0, .ref (a 0)), (1, .int x1), (2, .int x2), (3, .int x3)] → W p l e rmX10_onWayFrom s m args below meth c H locs 0 0 Qf (F0 m 4 ls [])) : ∀ (q : qS) (x1 : Int32) (x3 : Int32) (z0 : Int32) (z1 : Int32) (H : Heap) (locs : List Loc) (ls : Array Slot), wX10_onWayFrom_b32 k kb4 q x1 x3 z0 z1 → va_P G.1 vwCl (wM G a q ++ R) H → va_D A (wM G a q ++ R) → va_S A s.heap H locs → lv_has ls 4 [(0, .ref (a 0)), (1, .int x1), (3, .int x3)] → W p l e rmX10_onWayFrom s m args below meth c H locs 0 0 Qf (F0 m 32 ls [.int z1, .int z0]) := by
  intro q x1 x3 z0 z1 H locs ls h hP hD hS hl
  unfold wX10_onWayFrom_b32 at h
  refine lv_iadd hx hb dX10_onWayFrom_32 ?_
  refine lv_topi (fun y1 ey1 => ?_)
  have h := h y1 ey1
  refine lv_istore_n (lv' := [(2, .int y1), (0, .ref (a 0)), (1, .int x1), (3, .int x3)]) hx hb dX10_onWayFrom_33 rfl hl (by decide) rfl (fun ls hl => ?_)
  obtain ⟨y2, ey2⟩ : ∃ z : Int32, z = x3 + (1 : Int32) := ⟨_, rfl⟩
  have h := h y2 ey2
  refine lv_iinc (v := y2) (lv' := [(3, .int y2), (2, .int y1), (0, .ref (a 0)), (1, .int x1)]) hx hb dX10_onWayFrom_34 hl (k := 3) rfl (by rw [ey2]; rfl) (by decide) rfl (fun ls hl => ?_)
  refine lv_goto (tgt := 4) hx hb dX10_onWayFrom_37 (by decide) ?_
  exact hkb4 q x1 y1 y2 _ _ _ h hP hD hS (lv_sub hl [2, 3, 1, 0] rfl)
set_option maxHeartbeats 4000000 in
set_option maxRecDepth 100000 in
theorem kX10_onWayFrom_b4 {p : Program} {l : Launch} {e : Env} {s : State} {m : MethodId} {args : Array Value} {below : List Frame} {meth : Method} {c : Code} {G : qG} {A : Nat → Prop} {Qf : State → Prop} {R : va_W} {a : Nat → Nat} {k : Int32 → qS → Prop} (hx : p.tables.exec = Jvm.exec) (hb : c.code = cX10_onWayFrom) (hml : c.maxLocals = 4) (hown : s.vm.findClass RX10 = some m.cls) (hts : ∀ w ∈ wsX10_onWayFrom, w.before args s = true) (hA : ∀ q : Nat, s.heap.size ≤ q → A q) (hKn : qKn G A s s.heap) (hret : ∀ (r : Int32) (q : qS) (H : Heap) (locs : List Loc) (ls : Array Slot) (pc : Nat), k r q → va_P G.1 vwCl (wM G a q ++ R) H → va_D A (wM G a q ++ R) → va_S A s.heap H locs → decode cX10_onWayFrom pc = .ok (.ireturn, 1) → W p l e rmX10_onWayFrom s m args below meth c H locs 0 0 Qf (F0 m pc ls [.int r])) : ∀ (n : Nat) (q : qS) (x1 : Int32) (x2 : Int32) (x3 : Int32) (H : Heap) (locs : List Loc) (ls : Array Slot), wX10_onWayFrom_b4 k n q x1 x2 x3 → va_P G.1 vwCl (wM G a q ++ R) H → va_D A (wM G a q ++ R) → va_S A s.heap H locs → lv_has ls 4 [(0, .ref (a 0)), (1, .int x1), (2, .int x2), (3, .int x3)] → W p l e rmX10_onWayFrom s m args below meth c H locs 0 0 Qf (F0 m 4 ls []) := by
  intro n
  induction n with
  | zero => intros; rename_i h _ _ _ _; exact h.elim
  | succ n ih =>
    intro q x1 x2 x3 H locs ls h hP hD hS hl
    unfold wX10_onWayFrom_b4 at h
    refine lv_iload_n hx hb dX10_onWayFrom_4 rfl (lv_at hl 3 rfl) ?_
    refine lv_aload_n hx hb dX10_onWayFrom_5 rfl (lv_at hl 0 rfl) ?_
    refine va_get (D := G.1) (ci := 10) (v := .ref (a 1)) (C := RX10) (T := TX10) (N := 15) hx hb hts iX10_onWayFrom_X10 hown hKn.k hP 0 rfl rfl 1 (by decide) (hts _ lX10_onWayFrom_f7) (fun _ h9 => h9) rfl dX10_onWayFrom_6 ?_
    refine lv_iconst (v := (0 : Int32)) hx hb dX10_onWayFrom_9 (by decide) ?_
    refine va_iald hx hb hKn.k hP 1 0 rfl rfl (by unfold vp_in; decide) dX10_onWayFrom_10 ?_
    refine lv_icmp_ge (tgt := 40) hx hb dX10_onWayFrom_11 (by decide) (fun c1 => ?_) (fun c1 => ?_)
    · have h := h.1 c1
      refine lv_iload_n hx hb dX10_onWayFrom_40 rfl (lv_at hl 2 rfl) ?_
      exact hret _ _ _ _ _ _ h hP hD hS dX10_onWayFrom_41
    · have h := h.2 c1
      refine lv_iload_n hx hb dX10_onWayFrom_14 rfl (lv_at hl 2 rfl) ?_
      refine lv_aload_n hx hb dX10_onWayFrom_15 rfl (lv_at hl 0 rfl) ?_
      refine lv_iload_n hx hb dX10_onWayFrom_16 rfl (lv_at hl 3 rfl) ?_
      refine lv_iconst (v := (0 : Int32)) hx hb dX10_onWayFrom_17 (by decide) ?_
      refine qc_vi (As := [.int x3, .int (0 : Int32)]) (rest := [.int x2]) ⟨hx, hb, hml, hown, hts⟩ (mX10_truckOf l G _ _ a q _ x3 (0 : Int32)) (cwV 2 hts gX10_onWayFrom_X10_truckOf rfl rfl rfl (by decide +kernel) ⟨Nat.le_of_ble_eq_true rfl, Nat.le_of_ble_eq_true rfl⟩) hP hD hS hA hKn 0 10 rfl rfl rfl h rfl hl.1 rfl (Nat.le_of_ble_eq_true rfl) dX10_onWayFrom_18 ⟨Nat.zero_le _, Nat.zero_le _⟩ (fun r3 q4 H locs h hP hD hS => ?_)
      have hP : va_P G.1 vwCl (wM G a q4 ++ R) H := hP
      have hD : va_D A (wM G a q4 ++ R) := hD
      refine lv_iload_n hx hb dX10_onWayFrom_21 rfl (lv_at hl 1 rfl) ?_
      refine lv_iconst (v := (1 : Int32)) hx hb dX10_onWayFrom_22 (by decide) ?_
      refine lv_iadd hx hb dX10_onWayFrom_23 ?_
      refine lv_icmp_ne (tgt := 31) hx hb dX10_onWayFrom_24 (by decide) (fun c1 => ?_) (fun c1 => ?_)
      · have h := h.1 c1
        refine lv_iconst (v := (0 : Int32)) hx hb dX10_onWayFrom_31 (by decide) ?_
        exact kX10_onWayFrom_b32 hx hb hml hown hts hA hKn hret ih q4 x1 x3 x2 (0 : Int32) _ _ _ h hP hD hS (lv_sub hl [0, 1, 3] rfl)
      · have h := h.2 c1
        refine lv_iconst (v := (1 : Int32)) hx hb dX10_onWayFrom_27 (by decide) ?_
        refine lv_goto (tgt := 32) hx hb dX10_onWayFrom_28 (by decide) ?_
        exact kX10_onWayFrom_b32 hx hb hml hown hts hA hKn hret ih q4 x1 x3 x2 (1 : Int32) _ _ _ h hP hD hS (lv_sub hl [0, 1, 3] rfl)
set_option maxHeartbeats 4000000 in
set_option maxRecDepth 100000 in
theorem mX10_onWayFrom (l : Launch) (G : qG) (k : Int32 → qS → Prop) (R : va_W) (a : Nat → Nat) (q : qS) (sz : Nat) (p0 : Int32) : Met l yX10_onWayFrom wsX10_onWayFrom rmX10_onWayFrom (qPc G [.ref (a 0), .int p0] (wM G a q ++ R) sz (wX10_onWayFrom k q p0)) (qQi G (wM G a q ++ R) sz (fun (r : Int32) (u : qS) => k r u) (fun (u : qS) => wM G a u ++ R)) 0 0 (va_A (wM G a q ++ R) sz) := by
  refine Met.ofW (cc := cX10_onWayFrom) (maxL := 4) (ret := (some .int)) (by decide) rfl ?_
  intro p e s m args below meth c s₁ B hml hv
  obtain ⟨rfl, hsz, hP, hD0, hKn0, h⟩ := hv
  have hx := B.exec
  have hb := B.bytes
  have hr := B.returns
  have hts := atoms_spec (ws := wsX10_onWayFrom) B.pre
  have hown : s.vm.findClass RX10 = some m.cls := findClass_of_methodNamed B.named
  have hlocks := B.notSynchronized
  subst hsz
  have hD := hD0.self (sz := s.heap.size)
  generalize hAe : va_A (wM G a q ++ R) s.heap.size = A at hD hKn0 ⊢
  have hA : ∀ q : Nat, s.heap.size ≤ q → A q := fun q h => by rw [← hAe]; exact Or.inr h
  have hKn : qKn G A s s.heap := hKn0
  have hS : va_S A s.heap s.heap [] := va_S.rf
  have hret : ∀ (r : Int32) (q' : qS) (H : Heap) (locs : List Loc) (ls : Array Slot) (pc : Nat), k r q' → va_P G.1 vwCl (wM G a q' ++ R) H → va_D A (wM G a q' ++ R) → va_S A s.heap H locs → decode cX10_onWayFrom pc = .ok (.ireturn, 1) → W p l e rmX10_onWayFrom s m #[.ref (a 0), .int p0] below meth c H locs 0 0 (MQ below (qQi G (wM G a q ++ R) s.heap.size (fun (r : Int32) (u : qS) => k r u) (fun (u : qS) => wM G a u ++ R)) #[.ref (a 0), .int p0] s 0 0 A) (F0 m pc ls [.int r]) := fun r q' H locs ls pc hk hP hD hS hd => W.iret hx hb hr (fun t ht hW => q_ri (u := (q' : qS)) hAe hk hP hD hS ht) hS.2.2 hd
  have hl := lv_entry ([.ref (a 0), .int p0]) (n := 4) (Nat.le_of_ble_eq_true rfl)
  rw [lg_entry_eq]
  generalize (lg_sl ([.ref (a 0), .int p0]) ++ List.replicate (4 - (lg_sl ([.ref (a 0), .int p0])).length) Slot.unset).toArray = ls at hl ⊢
  have hl : lv_has ls 4 [(0, .ref (a 0)), (1, .int p0)] := hl
  unfold wX10_onWayFrom at h
  show W p l e rmX10_onWayFrom s m #[.ref (a 0), .int p0] below meth c s.heap [] 0 0 _ _
  refine lv_iconst (v := (0 : Int32)) hx hb dX10_onWayFrom_0 (by decide) ?_
  refine lv_istore_n (lv' := [(2, .int (0 : Int32)), (0, .ref (a 0)), (1, .int p0)]) hx hb dX10_onWayFrom_1 rfl hl (by decide) rfl (fun ls hl => ?_)
  refine lv_iconst (v := (0 : Int32)) hx hb dX10_onWayFrom_2 (by decide) ?_
  refine lv_istore_n (lv' := [(3, .int (0 : Int32)), (2, .int (0 : Int32)), (0, .ref (a 0)), (1, .int p0)]) hx hb dX10_onWayFrom_3 rfl hl (by decide) rfl (fun ls hl => ?_)
  obtain ⟨n5, h⟩ := h
  exact kX10_onWayFrom_b4 hx hb hml hown hts hA hKn hret n5 q p0 (0 : Int32) (0 : Int32) _ _ _ h hP hD hS (lv_sub hl [2, 3, 1, 0] rfl)
