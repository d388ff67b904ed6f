abbrev rmX10_leastTrucks : Room := { frames := 5, cells := 0, slots := 0, locals := 113 }
theorem lX10_leastTrucks_f32 : Cond.fieldLink RX10 32 "QuarryBlendsModel" "thrown" "I" ∈ wsX10_leastTrucks := by decide +kernel
theorem lX10_leastTrucks_f7 : Cond.fieldLink RX10 7 "QuarryBlendsModel" "s" "[I" ∈ wsX10_leastTrucks := by decide +kernel
theorem iX10_leastTrucks_X10 : ∀ w ∈ wsX100, w ∈ wsX10_leastTrucks := by decide +kernel
set_option maxHeartbeats 4000000 in
set_option maxRecDepth 100000 in
theorem kX10_leastTrucks_b19 {p : Program} {l : Launch} {e : Env} {s : State} {m : MethodId} {args : Array Value} {below : List Frame} {meth : Method} {c : Code} {G : qG} {A : Nat → Prop} {Qf : State → Prop} {R : va_W} {a : Nat → Nat} {k : Int32 → qS → Prop} (hx : p.tables.exec = Jvm.exec) (hb : c.code = cX10_leastTrucks) (hml : c.maxLocals = 5) (hown : s.vm.findClass RX10 = some m.cls) (hts : ∀ w ∈ wsX10_leastTrucks, w.before args s = true) (hA : ∀ q : Nat, s.heap.size ≤ q → A q) (hKn : qKn G A s s.heap) (hret : ∀ (r : Int32) (q : qS) (H : Heap) (locs : List Loc) (ls : Array Slot) (pc : Nat), k r q → va_P G.1 vwCl (wM G a q ++ R) H → va_D A (wM G a q ++ R) → va_S A s.heap H locs → decode cX10_leastTrucks pc = .ok (.ireturn, 1) → W p l e rmX10_leastTrucks s m args below meth c H locs 0 0 Qf (F0 m pc ls [.int r])) : ∀ (q : qS) (H : Heap) (locs : List Loc) (ls : Array Slot), wX10_leastTrucks_b19 k q → va_P G.1 vwCl (wM G a q ++ R) H → va_D A (wM G a q ++ R) → va_S A s.heap H locs → lv_has ls 5 [] → W p l e rmX10_leastTrucks s m args below meth c H locs 0 0 Qf (F0 m 19 ls []) := by
  intro q H locs ls h hP hD hS hl
  unfold wX10_leastTrucks_b19 at h
  refine lv_bipush (v := (-2 : Int32)) hx hb dX10_leastTrucks_19 (by decide) ?_
  exact hret _ _ _ _ _ _ h hP hD hS dX10_leastTrucks_21
set_option maxHeartbeats 4000000 in
set_option maxRecDepth 100000 in
theorem kX10_leastTrucks_b72 {p : Program} {l : Launch} {e : Env} {s : State} {m : MethodId} {args : Array Value} {below : List Frame} {meth : Method} {c : Code} {G : qG} {A : Nat → Prop} {Qf : State → Prop} {R : va_W} {a : Nat → Nat} {k : Int32 → qS → Prop} (hx : p.tables.exec = Jvm.exec) (hb : c.code = cX10_leastTrucks) (hml : c.maxLocals = 5) (hown : s.vm.findClass RX10 = some m.cls) (hts : ∀ w ∈ wsX10_leastTrucks, w.before args s = true) (hA : ∀ q : Nat, s.heap.size ≤ q → A q) (hKn : qKn G A s s.heap) (hret : ∀ (r : Int32) (q : qS) (H : Heap) (locs : List Loc) (ls : Array Slot) (pc : Nat), k r q → va_P G.1 vwCl (wM G a q ++ R) H → va_D A (wM G a q ++ R) → va_S A s.heap H locs → decode cX10_leastTrucks pc = .ok (.ireturn, 1) → W p l e rmX10_leastTrucks s m args below meth c H locs 0 0 Qf (F0 m pc ls [.int r])) {kb35 : qS → Int32 → Int32 → Int32 → Int32 → Prop} (hkb35 : ∀ (q : qS) (x1 : Int32) (x2 : Int32) (x3 : Int32) (x4 : Int32) (H : Heap) (locs : List Loc) (ls : Array Slot), kb35 q x1 x2 x3 x4 → va_P G.1 vwCl (wM G a q ++ R) H → va_D A (wM G a q ++ R) → va_S A s.heap H locs → lv_has ls 5 [(0, .ref (a 0)), (1, .int x1), (2, .int x2), (3, .int x3), (4, .int x4)] → W p l e rmX10_leastTrucks s m args below meth c H locs 0 0 Qf (F0 m 35 ls [])) : ∀ (q : qS) (x1 : Int32) (x2 : Int32) (x4 : Int32) (z0 : Int32) (H : Heap) (locs : List Loc) (ls : Array Slot), wX10_leastTrucks_b72 k kb35 q x1 x2 x4 z0 → va_P G.1 vwCl (wM G a q ++ R) H → va_D A (wM G a q ++ R) → va_S A s.heap H locs → lv_has ls 5 [(0, .ref (a 0)), (1, .int x1), (2, .int x2), (4, .int x4)] → W p l e rmX10_leastTrucks s m args below meth c H locs 0 0 Qf (F0 m 72 ls [.int z0]) := by
  intro q x1 x2 x4 z0 H locs ls h hP hD hS hl
  unfold wX10_leastTrucks_b72 at h
  refine lv_istore_n (lv' := [(3, .int z0), (0, .ref (a 0)), (1, .int x1), (2, .int x2), (4, .int x4)]) hx hb dX10_leastTrucks_72 rfl hl (by decide) rfl (fun ls hl => ?_)
  refine lv_aload_n hx hb dX10_leastTrucks_73 rfl (lv_at hl 1 rfl) ?_
  refine qc_vv (As := []) (rest := []) ⟨hx, hb, hml, hown, hts⟩ (mX10_takeBack l G _ _ a q _ ) (cwV 0 hts gX10_leastTrucks_X10_takeBack rfl rfl rfl (by decide +kernel) ⟨Nat.le_of_ble_eq_true rfl, Nat.le_of_ble_eq_true rfl⟩) hP hD hS hA hKn 0 10 rfl rfl rfl h rfl hl.1 rfl (Nat.le_of_ble_eq_true rfl) dX10_leastTrucks_74 ⟨Nat.zero_le _, Nat.zero_le _⟩ (fun q2 H locs h hP hD hS => ?_)
  have hP : va_P G.1 vwCl (wM G a q2 ++ R) H := hP
  have hD : va_D A (wM G a q2 ++ R) := hD
  obtain ⟨y3, ey3⟩ : ∃ z : Int32, z = x4 + (1 : Int32) := ⟨_, rfl⟩
  have h := h y3 ey3
  refine lv_iinc (v := y3) (lv' := [(4, .int y3), (3, .int z0), (0, .ref (a 0)), (1, .int x1), (2, .int x2)]) hx hb dX10_leastTrucks_77 hl (k := 4) rfl (by rw [ey3]; rfl) (by decide) rfl (fun ls hl => ?_)
  refine lv_goto (tgt := 35) hx hb dX10_leastTrucks_80 (by decide) ?_
  exact hkb35 q2 x1 x2 z0 y3 _ _ _ h hP hD hS (lv_sub hl [2, 3, 4, 1, 0] rfl)
set_option maxHeartbeats 4000000 in
set_option maxRecDepth 100000 in
theorem kX10_leastTrucks_b83 {p : Program} {l : Launch} {e : Env} {s : State} {m : MethodId} {args : Array Value} {below : List Frame} {meth : Method} {c : Code} {G : qG} {A : Nat → Prop} {Qf : State → Prop} {R : va_W} {a : Nat → Nat} {k : Int32 → qS → Prop} (hx : p.tables.exec = Jvm.exec) (hb : c.code = cX10_leastTrucks) (hml : c.maxLocals = 5) (hown : s.vm.findClass RX10 = some m.cls) (hts : ∀ w ∈ wsX10_leastTrucks, w.before args s = true) (hA : ∀ q : Nat, s.heap.size ≤ q → A q) (hKn : qKn G A s s.heap) (hret : ∀ (r : Int32) (q : qS) (H : Heap) (locs : List Loc) (ls : Array Slot) (pc : Nat), k r q → va_P G.1 vwCl (wM G a q ++ R) H → va_D A (wM G a q ++ R) → va_S A s.heap H locs → decode cX10_leastTrucks pc = .ok (.ireturn, 1) → W p l e rmX10_leastTrucks s m args below meth c H locs 0 0 Qf (F0 m pc ls [.int r])) : ∀ (q : qS) (x3 : Int32) (H : Heap) (locs : List Loc) (ls : Array Slot), wX10_leastTrucks_b83 k q x3 → va_P G.1 vwCl (wM G a q ++ R) H → va_D A (wM G a q ++ R) → va_S A s.heap H locs → lv_has ls 5 [(3, .int x3)] → W p l e rmX10_leastTrucks s m args below meth c H locs 0 0 Qf (F0 m 83 ls []) := by
  intro q x3 H locs ls h hP hD hS hl
  unfold wX10_leastTrucks_b83 at h
  refine lv_iload_n hx hb dX10_leastTrucks_83 rfl (lv_at hl 0 rfl) ?_
  exact hret _ _ _ _ _ _ h hP hD hS dX10_leastTrucks_84
set_option maxHeartbeats 4000000 in
set_option maxRecDepth 100000 in
theorem kX10_leastTrucks_b35 {p : Program} {l : Launch} {e : Env} {s : State} {m : MethodId} {args : Array Value} {below : List Frame} {meth : Method} {c : Code} {G : qG} {A : Nat → Prop} {Qf : State → Prop} {R : va_W} {a : Nat → Nat} {k : Int32 → qS → Prop} (hx : p.tables.exec = Jvm.exec) (hb : c.code = cX10_leastTrucks) (hml : c.maxLocals = 5) (hown : s.vm.findClass RX10 = some m.cls) (hts : ∀ w ∈ wsX10_leastTrucks, w.before args s = true) (hA : ∀ q : Nat, s.heap.size ≤ q → A q) (hKn : qKn G A s s.heap) (hret : ∀ (r : Int32) (q : qS) (H : Heap) (locs : List Loc) (ls : Array Slot) (pc : Nat), k r q → va_P G.1 vwCl (wM G a q ++ R) H → va_D A (wM G a q ++ R) → va_S A s.heap H locs → decode cX10_leastTrucks pc = .ok (.ireturn, 1) → W p l e rmX10_leastTrucks s m args below meth c H locs 0 0 Qf (F0 m pc ls [.int r])) : ∀ (n : Nat) (q : qS) (x1 : Int32) (x2 : Int32) (x3 : Int32) (x4 : Int32) (H : Heap) (locs : List Loc) (ls : Array Slot), wX10_leastTrucks_b35 k n q x1 x2 x3 x4 → va_P G.1 vwCl (wM G a q ++ R) H → va_D A (wM G a q ++ R) → va_S A s.heap H locs → lv_has ls 5 [(0, .ref (a 0)), (1, .int x1), (2, .int x2), (3, .int x3), (4, .int x4)] → W p l e rmX10_leastTrucks s m args below meth c H locs 0 0 Qf (F0 m 35 ls []) := by
  intro n
  induction n with
  | zero => intros; rename_i h _ _ _ _; exact h.elim
  | succ n ih =>
    intro q x1 x2 x3 x4 H locs ls h hP hD hS hl
    unfold wX10_leastTrucks_b35 at h
    refine lv_iload hx hb dX10_leastTrucks_35 (lv_at hl 4 rfl) ?_
    refine lv_bipush (v := (20 : Int32)) hx hb dX10_leastTrucks_37 (by decide) ?_
    refine lv_icmp_gt (tgt := 83) hx hb dX10_leastTrucks_39 (by decide) (fun c1 => ?_) (fun c1 => ?_)
    · have h := h.1 c1
      exact kX10_leastTrucks_b83 hx hb hml hown hts hA hKn hret q x3 _ _ _ h hP hD hS (lv_sub hl [3] rfl)
    · have h := h.2 c1
      refine lv_iload_n hx hb dX10_leastTrucks_42 rfl (lv_at hl 3 rfl) ?_
      refine lv_bipush (v := (-6 : Int32)) hx hb dX10_leastTrucks_43 (by decide) ?_
      refine lv_icmp_ne (tgt := 83) hx hb dX10_leastTrucks_45 (by decide) (fun c1 => ?_) (fun c1 => ?_)
      · have h := h.1 c1
        exact kX10_leastTrucks_b83 hx hb hml hown hts hA hKn hret q x3 _ _ _ h hP hD hS (lv_sub hl [3] rfl)
      · have h := h.2 c1
        refine lv_aload_n hx hb dX10_leastTrucks_48 rfl (lv_at hl 0 rfl) ?_
        refine va_get (D := G.1) (ci := 10) (v := .ref (a 1)) (C := RX10) (T := TX10) (N := 15) hx hb hts iX10_leastTrucks_X10 hown hKn.k hP 0 rfl rfl 1 (by decide) (hts _ lX10_leastTrucks_f7) (fun _ h9 => h9) rfl dX10_leastTrucks_49 ?_
        refine lv_iconst (v := (0 : Int32)) hx hb dX10_leastTrucks_52 (by decide) ?_
        refine lv_iload hx hb dX10_leastTrucks_53 (lv_at hl 4 rfl) ?_
        refine va_iast hx hb hKn.k hP hD hS 1 0 rfl rfl (by unfold vp_in; decide) dX10_leastTrucks_55 (fun H locs hP hD hS => ?_)
        obtain ⟨q4, eq4⟩ : ∃ z : qS, z = up2 q 1 0 x4 := ⟨_, rfl⟩
        have hP : va_P G.1 vwCl (wM G a q4 ++ R) H := by rw [eq4]; exact hP
        have hD : va_D A (wM G a q4 ++ R) := by rw [eq4]; exact hD
        have h := h q4 eq4
        refine lv_aload_n hx hb dX10_leastTrucks_56 rfl (lv_at hl 0 rfl) ?_
        refine lv_iload_n hx hb dX10_leastTrucks_57 rfl (lv_at hl 1 rfl) ?_
        refine qc_vi (As := [.int x1]) (rest := []) ⟨hx, hb, hml, hown, hts⟩ (mX10_days l G _ _ a q4 _ x1) (cwV 1 hts gX10_leastTrucks_X10_days rfl rfl rfl (by decide +kernel) ⟨Nat.le_of_ble_eq_true rfl, Nat.le_of_ble_eq_true rfl⟩) hP hD hS hA hKn 0 10 rfl rfl rfl h rfl hl.1 rfl (Nat.le_of_ble_eq_true rfl) dX10_leastTrucks_58 ⟨Nat.zero_le _, Nat.zero_le _⟩ (fun r5 q6 H locs h hP hD hS => ?_)
        have hP : va_P G.1 vwCl (wM G a q6 ++ R) H := hP
        have hD : va_D A (wM G a q6 ++ R) := hD
        refine lv_iload_n hx hb dX10_leastTrucks_61 rfl (lv_at hl 2 rfl) ?_
        refine lv_icmp_lt (tgt := 70) hx hb dX10_leastTrucks_62 (by decide) (fun c1 => ?_) (fun c1 => ?_)
        · have h := h.1 c1
          refine lv_bipush (v := (-6 : Int32)) hx hb dX10_leastTrucks_70 (by decide) ?_
          exact kX10_leastTrucks_b72 hx hb hml hown hts hA hKn hret ih q6 x1 x2 x4 (-6 : Int32) _ _ _ h hP hD hS (lv_sub hl [0, 1, 2, 4] rfl)
        · have h := h.2 c1
          refine lv_iload hx hb dX10_leastTrucks_65 (lv_at hl 4 rfl) ?_
          refine lv_goto (tgt := 72) hx hb dX10_leastTrucks_67 (by decide) ?_
          exact kX10_leastTrucks_b72 hx hb hml hown hts hA hKn hret ih q6 x1 x2 x4 x4 _ _ _ h hP hD hS (lv_sub hl [0, 1, 2, 4] rfl)
set_option maxHeartbeats 4000000 in
set_option maxRecDepth 100000 in
theorem mX10_leastTrucks (l : Launch) (G : qG) (k : Int32 → qS → Prop) (R : va_W) (a : Nat → Nat) (q : qS) (sz : Nat) (p0 : Int32) (p1 : Int32) : Met l yX10_leastTrucks wsX10_leastTrucks rmX10_leastTrucks (qPc G [.ref (a 0), .int p0, .int p1] (wM G a q ++ R) sz (wX10_leastTrucks k q p0 p1)) (qQi G (wM G a q ++ R) sz (fun (r : Int32) (u : qS) => k r u) (fun (u : qS) => wM G a u ++ R)) 0 0 (va_A (wM G a q ++ R) sz) := by
  refine Met.ofW (cc := cX10_leastTrucks) (maxL := 5) (ret := (some .int)) (by decide) rfl ?_
  intro p e s m args below meth c s₁ B hml hv
  obtain ⟨rfl, hsz, hP, hD0, hKn0, h⟩ := hv
  have hx := B.exec
  have hb := B.bytes
  have hr := B.returns
  have hts := atoms_spec (ws := wsX10_leastTrucks) B.pre
  have hown : s.vm.findClass RX10 = some m.cls := findClass_of_methodNamed B.named
  have hlocks := B.notSynchronized
  subst hsz
  have hD := hD0.self (sz := s.heap.size)
  generalize hAe : va_A (wM G a q ++ R) s.heap.size = A at hD hKn0 ⊢
  have hA : ∀ q : Nat, s.heap.size ≤ q → A q := fun q h => by rw [← hAe]; exact Or.inr h
  have hKn : qKn G A s s.heap := hKn0
  have hS : va_S A s.heap s.heap [] := va_S.rf
  have hret : ∀ (r : Int32) (q' : qS) (H : Heap) (locs : List Loc) (ls : Array Slot) (pc : Nat), k r q' → va_P G.1 vwCl (wM G a q' ++ R) H → va_D A (wM G a q' ++ R) → va_S A s.heap H locs → decode cX10_leastTrucks pc = .ok (.ireturn, 1) → W p l e rmX10_leastTrucks s m #[.ref (a 0), .int p0, .int p1] below meth c H locs 0 0 (MQ below (qQi G (wM G a q ++ R) s.heap.size (fun (r : Int32) (u : qS) => k r u) (fun (u : qS) => wM G a u ++ R)) #[.ref (a 0), .int p0, .int p1] s 0 0 A) (F0 m pc ls [.int r]) := fun r q' H locs ls pc hk hP hD hS hd => W.iret hx hb hr (fun t ht hW => q_ri (u := (q' : qS)) hAe hk hP hD hS ht) hS.2.2 hd
  have hl := lv_entry ([.ref (a 0), .int p0, .int p1]) (n := 5) (Nat.le_of_ble_eq_true rfl)
  rw [lg_entry_eq]
  generalize (lg_sl ([.ref (a 0), .int p0, .int p1]) ++ List.replicate (5 - (lg_sl ([.ref (a 0), .int p0, .int p1])).length) Slot.unset).toArray = ls at hl ⊢
  have hl : lv_has ls 5 [(0, .ref (a 0)), (1, .int p0), (2, .int p1)] := hl
  unfold wX10_leastTrucks at h
  show W p l e rmX10_leastTrucks s m #[.ref (a 0), .int p0, .int p1] below meth c s.heap [] 0 0 _ _
  refine lv_aload_n hx hb dX10_leastTrucks_0 rfl (lv_at hl 0 rfl) ?_
  refine lv_iconst (v := (0 : Int32)) hx hb dX10_leastTrucks_1 (by decide) ?_
  refine va_put (D := G.1) (ci := 10) (v := .int (0 : Int32)) (ty := .int) (C := RX10) (T := TX10) (N := 15) hx hb hts iX10_leastTrucks_X10 tyX10 tyX10_ok nmX10 hown hKn.k hP hD hS 0 rfl rfl 0 (by decide) (hts _ lX10_leastTrucks_f32) (fun _ h9 => h9) rfl (by decide +kernel) rfl rfl (Nat.le_of_ble_eq_true rfl) dX10_leastTrucks_2 (fun H locs hP hD hS => ?_)
  obtain ⟨q7, eq7⟩ : ∃ z : qS, z = up2 q 0 0 (0 : Int32) := ⟨_, rfl⟩
  have hP : va_P G.1 vwCl (wM G a q7 ++ R) H := by rw [eq7]; exact hP
  have hD : va_D A (wM G a q7 ++ R) := by rw [eq7]; exact hD
  have h := h q7 eq7
  refine lv_iload_n hx hb dX10_leastTrucks_5 rfl (lv_at hl 1 rfl) ?_
  refine lv_iconst (v := (1 : Int32)) hx hb dX10_leastTrucks_6 (by decide) ?_
  refine lv_bipush (v := (30 : Int32)) hx hb dX10_leastTrucks_7 (by decide) ?_
  refine qc_si (As := [.int p0, .int (1 : Int32), .int (30 : Int32)]) (rest := []) ⟨hx, hb, hml, hown, hts⟩ (mX10_in l G _ _ _ p0 (1 : Int32) (30 : Int32)) (cwS 3 hts gX10_leastTrucks_X10_in rfl rfl rfl (by decide +kernel) ⟨Nat.le_of_ble_eq_true rfl, Nat.le_of_ble_eq_true rfl⟩) hP hD hS hA hKn h rfl hl.1 rfl (Nat.le_of_ble_eq_true rfl) dX10_leastTrucks_9 ⟨Nat.zero_le _, Nat.zero_le _⟩ (fun r8 _ H locs h hP hD hS => ?_)
  have hP : va_P G.1 vwCl (wM G a q7 ++ R) H := hP
  have hD : va_D A (wM G a q7 ++ R) := hD
  refine lv_if_eq (tgt := 19) hx hb dX10_leastTrucks_12 (by decide) (fun c1 => ?_) (fun c1 => ?_)
  · have h := h.1 c1
    exact kX10_leastTrucks_b19 hx hb hml hown hts hA hKn hret q7 _ _ _ h hP hD hS (lv_sub hl [] rfl)
  · have h := h.2 c1
    refine lv_iload_n hx hb dX10_leastTrucks_15 rfl (lv_at hl 2 rfl) ?_
    refine lv_if_ge (tgt := 22) hx hb dX10_leastTrucks_16 (by decide) (fun c1 => ?_) (fun c1 => ?_)
    · have h := h.1 c1
      refine lv_aload_n hx hb dX10_leastTrucks_22 rfl (lv_at hl 0 rfl) ?_
      refine qc_vv (As := []) (rest := []) ⟨hx, hb, hml, hown, hts⟩ (mX10_putAside l G _ _ a q7 _ ) (cwV 0 hts gX10_leastTrucks_X10_putAside rfl rfl rfl (by decide +kernel) ⟨Nat.le_of_ble_eq_true rfl, Nat.le_of_ble_eq_true rfl⟩) hP hD hS hA hKn 0 10 rfl rfl rfl h rfl hl.1 rfl (Nat.le_of_ble_eq_true rfl) dX10_leastTrucks_23 ⟨Nat.zero_le _, Nat.zero_le _⟩ (fun q10 H locs h hP hD hS => ?_)
      have hP : va_P G.1 vwCl (wM G a q10 ++ R) H := hP
      have hD : va_D A (wM G a q10 ++ R) := hD
      refine lv_bipush (v := (-6 : Int32)) hx hb dX10_leastTrucks_26 (by decide) ?_
      refine lv_istore_n (lv' := [(3, .int (-6 : Int32)), (0, .ref (a 0)), (1, .int p0), (2, .int p1)]) hx hb dX10_leastTrucks_28 rfl hl (by decide) rfl (fun ls hl => ?_)
      refine lv_aload_n hx hb dX10_leastTrucks_29 rfl (lv_at hl 1 rfl) ?_
      refine qc_vi (As := []) (rest := []) ⟨hx, hb, hml, hown, hts⟩ (mX10_trucksNeeded l G _ _ a q10 _ ) (cwV 0 hts gX10_leastTrucks_X10_trucksNeeded rfl rfl rfl (by decide +kernel) ⟨Nat.le_of_ble_eq_true rfl, Nat.le_of_ble_eq_true rfl⟩) hP hD hS hA hKn 0 10 rfl rfl rfl h rfl hl.1 rfl (Nat.le_of_ble_eq_true rfl) dX10_leastTrucks_30 ⟨Nat.zero_le _, Nat.zero_le _⟩ (fun r11 q12 H locs h hP hD hS => ?_)
      have hP : va_P G.1 vwCl (wM G a q12 ++ R) H := hP
      have hD : va_D A (wM G a q12 ++ R) := hD
      refine lv_istore (lv' := [(4, .int r11), (3, .int (-6 : Int32)), (0, .ref (a 0)), (1, .int p0), (2, .int p1)]) hx hb dX10_leastTrucks_33 hl (by decide) rfl (fun ls hl => ?_)
      obtain ⟨n13, h⟩ := h
      exact kX10_leastTrucks_b35 hx hb hml hown hts hA hKn hret n13 q12 p0 p1 (-6 : Int32) r11 _ _ _ h hP hD hS (lv_sub hl [2, 3, 4, 1, 0] rfl)
    · have h := h.2 c1
      exact kX10_leastTrucks_b19 hx hb hml hown hts hA hKn hret q7 _ _ _ h hP hD hS (lv_sub hl [] rfl)
abbrev rmX10_put : Room := { frames := 1, cells := 0, slots := 0, locals := 22 }
theorem lX10_put_c154 : Cond.constantLong RX10 154 (255) ∈ wsX10_put := by decide +kernel
theorem lX10_put_f144 : Cond.fieldLink RX10 144 "QuarryBlendsModel" "length" "I" ∈ wsX10_put := by decide +kernel
theorem lX10_put_f26 : Cond.fieldLink RX10 26 "QuarryBlendsModel" "pad" "[I" ∈ wsX10_put := by decide +kernel
theorem lX10_put_f32 : Cond.fieldLink RX10 32 "QuarryBlendsModel" "thrown" "I" ∈ wsX10_put := by decide +kernel
theorem iX10_put_X10 : ∀ w ∈ wsX100, w ∈ wsX10_put := by decide +kernel
set_option maxHeartbeats 4000000 in
set_option maxRecDepth 100000 in
theorem kX10_put_b57 {p : Program} {l : Launch} {e : Env} {s : State} {m : MethodId} {args : Array Value} {below : List Frame} {meth : Method} {c : Code} {G : qG} {A : Nat → Prop} {Qf : State → Prop} {R : va_W} {a : Nat → Nat} {k : Int32 → qS → Prop} (hx : p.tables.exec = Jvm.exec) (hb : c.code = cX10_put) (hml : c.maxLocals = 8) (hown : s.vm.findClass RX10 = some m.cls) (hts : ∀ w ∈ wsX10_put, w.before args s = true) (hA : ∀ q : Nat, s.heap.size ≤ q → A q) (hKn : qKn G A s s.heap) (hret : ∀ (r : Int32) (q : qS) (H : Heap) (locs : List Loc) (ls : Array Slot) (pc : Nat), k r q → va_P G.1 vwCl (wM G a q ++ R) H → va_D A (wM G a q ++ R) → va_S A s.heap H locs → decode cX10_put pc = .ok (.ireturn, 1) → W p l e rmX10_put s m args below meth c H locs 0 0 Qf (F0 m pc ls [.int r])) {kb13 : qS → Int64 → Int32 → Int64 → Int32 → Prop} (hkb13 : ∀ (q : qS) (x1 : Int64) (x3 : Int32) (x4 : Int64) (x6 : Int32) (H : Heap) (locs : List Loc) (ls : Array Slot), kb13 q x1 x3 x4 x6 → va_P G.1 vwCl (wM G a q ++ R) H → va_D A (wM G a q ++ R) → va_S A s.heap H locs → lv_has ls 8 [(0, .ref (a 0)), (1, .long x1), (3, .int x3), (4, .long x4), (6, .int x6)] → W p l e rmX10_put s m args below meth c H locs 0 0 Qf (F0 m 13 ls [])) : ∀ (q : qS) (x1 : Int64) (x3 : Int32) (x4 : Int64) (z0 : Int32) (H : Heap) (locs : List Loc) (ls : Array Slot), wX10_put_b57 k kb13 q x1 x3 x4 z0 → va_P G.1 vwCl (wM G a q ++ R) H → va_D A (wM G a q ++ R) → va_S A s.heap H locs → lv_has ls 8 [(0, .ref (a 0)), (1, .long x1), (3, .int x3), (4, .long x4)] → W p l e rmX10_put s m args below meth c H locs 0 0 Qf (F0 m 57 ls [.int z0]) := by
  intro q x1 x3 x4 z0 H locs ls h hP hD hS hl
  unfold wX10_put_b57 at h
  refine lv_istore (lv' := [(6, .int z0), (0, .ref (a 0)), (1, .long x1), (3, .int x3), (4, .long x4)]) hx hb dX10_put_57 hl (by decide) rfl (fun ls hl => ?_)
  refine lv_lload hx hb dX10_put_59 (lv_at hl 4 rfl) ?_
  refine lv_bipush (v := (8 : Int32)) hx hb dX10_put_61 (by decide) ?_
  refine lv_lushr hx hb dX10_put_63 rfl ?_
  refine lv_lstore (lv' := [(4, .long (x4.toUInt64 >>> ((8 : Int32).toInt64.toUInt64 &&& Int64.toUInt64 63)).toInt64), (6, .int z0), (0, .ref (a 0)), (1, .long x1), (3, .int x3)]) hx hb dX10_put_64 hl (by decide) rfl (fun ls hl => ?_)
  obtain ⟨y1, ey1⟩ : ∃ z : Int32, z = x3 + (1 : Int32) := ⟨_, rfl⟩
  have h := h y1 ey1
  refine lv_iinc (v := y1) (lv' := [(3, .int y1), (4, .long (x4.toUInt64 >>> ((8 : Int32).toInt64.toUInt64 &&& Int64.toUInt64 63)).toInt64), (6, .int z0), (0, .ref (a 0)), (1, .long x1)]) hx hb dX10_put_66 hl (k := 4) rfl (by rw [ey1]; rfl) (by decide) rfl (fun ls hl => ?_)
  refine lv_goto (tgt := 13) hx hb dX10_put_69 (by decide) ?_
  exact hkb13 q x1 y1 (x4.toUInt64 >>> ((8 : Int32).toInt64.toUInt64 &&& Int64.toUInt64 63)).toInt64 z0 _ _ _ h hP hD hS (lv_sub hl [3, 4, 0, 1, 2] rfl)
set_option maxHeartbeats 4000000 in
set_option maxRecDepth 100000 in
theorem kX10_put_b56 {p : Program} {l : Launch} {e : Env} {s : State} {m : MethodId} {args : Array Value} {below : List Frame} {meth : Method} {c : Code} {G : qG} {A : Nat → Prop} {Qf : State → Prop} {R : va_W} {a : Nat → Nat} {k : Int32 → qS → Prop} (hx : p.tables.exec = Jvm.exec) (hb : c.code = cX10_put) (hml : c.maxLocals = 8) (hown : s.vm.findClass RX10 = some m.cls) (hts : ∀ w ∈ wsX10_put, w.before args s = true) (hA : ∀ q : Nat, s.heap.size ≤ q → A q) (hKn : qKn G A s s.heap) (hret : ∀ (r : Int32) (q : qS) (H : Heap) (locs : List Loc) (ls : Array Slot) (pc : Nat), k r q → va_P G.1 vwCl (wM G a q ++ R) H → va_D A (wM G a q ++ R) → va_S A s.heap H locs → decode cX10_put pc = .ok (.ireturn, 1) → W p l e rmX10_put s m args below meth c H locs 0 0 Qf (F0 m pc ls [.int r])) {kb13 : qS → Int64 → Int32 → Int64 → Int32 → Prop} (hkb13 : ∀ (q : qS) (x1 : Int64) (x3 : Int32) (x4 : Int64) (x6 : Int32) (H : Heap) (locs : List Loc) (ls : Array Slot), kb13 q x1 x3 x4 x6 → va_P G.1 vwCl (wM G a q ++ R) H → va_D A (wM G a q ++ R) → va_S A s.heap H locs → lv_has ls 8 [(0, .ref (a 0)), (1, .long x1), (3, .int x3), (4, .long x4), (6, .int x6)] → W p l e rmX10_put s m args below meth c H locs 0 0 Qf (F0 m 13 ls [])) : ∀ (q : qS) (x1 : Int64) (x3 : Int32) (x4 : Int64) (H : Heap) (locs : List Loc) (ls : Array Slot), wX10_put_b56 k kb13 q x1 x3 x4 → va_P G.1 vwCl (wM G a q ++ R) H → va_D A (wM G a q ++ R) → va_S A s.heap H locs → lv_has ls 8 [(0, .ref (a 0)), (1, .long x1), (3, .int x3), (4, .long x4)] → W p l e rmX10_put s m args below meth c H locs 0 0 Qf (F0 m 56 ls []) := by
  intro q x1 x3 x4 H locs ls h hP hD hS hl
  unfold wX10_put_b56 at h
  refine lv_iconst (v := (0 : Int32)) hx hb dX10_put_56 (by decide) ?_
  exact kX10_put_b57 hx hb hml hown hts hA hKn hret hkb13 q x1 x3 x4 (0 : Int32) _ _ _ h hP hD hS (lv_sub hl [0, 1, 2, 3] rfl)
set_option maxHeartbeats 4000000 in
set_option maxRecDepth 100000 in
theorem kX10_put_b88 {p : Program} {l : Launch} {e : Env} {s : State} {m : MethodId} {args : Array Value} {below : List Frame} {meth : Method} {c : Code} {G : qG} {A : Nat → Prop} {Qf : State → Prop} {R : va_W} {a : Nat → Nat} {k : Int32 → qS → Prop} (hx : p.tables.exec = Jvm.exec) (hb : c.code = cX10_put) (hml : c.maxLocals = 8) (hown : s.vm.findClass RX10 = some m.cls) (hts : ∀ w ∈ wsX10_put, w.before args s = true) (hA : ∀ q : Nat, s.heap.size ≤ q → A q) (hKn : qKn G A s s.heap) (hret : ∀ (r : Int32) (q : qS) (H : Heap) (locs : List Loc) (ls : Array Slot) (pc : Nat), k r q → va_P G.1 vwCl (wM G a q ++ R) H → va_D A (wM G a q ++ R) → va_S A s.heap H locs → decode cX10_put pc = .ok (.ireturn, 1) → W p l e rmX10_put s m args below meth c H locs 0 0 Qf (F0 m pc ls [.int r])) : ∀ (q : qS) (H : Heap) (locs : List Loc) (ls : Array Slot), wX10_put_b88 k q → va_P G.1 vwCl (wM G a q ++ R) H → va_D A (wM G a q ++ R) → va_S A s.heap H locs → lv_has ls 8 [] → W p l e rmX10_put s m args below meth c H locs 0 0 Qf (F0 m 88 ls []) := by
  intro q H locs ls h hP hD hS hl
  unfold wX10_put_b88 at h
  refine lv_bipush (v := (-2 : Int32)) hx hb dX10_put_88 (by decide) ?_
  exact hret _ _ _ _ _ _ h hP hD hS dX10_put_90
set_option maxHeartbeats 4000000 in
set_option maxRecDepth 100000 in
theorem kX10_put_b108 {p : Program} {l : Launch} {e : Env} {s : State} {m : MethodId} {args : Array Value} {below : List Frame} {meth : Method} {c : Code} {G : qG} {A : Nat → Prop} {Qf : State → Prop} {R : va_W} {a : Nat → Nat} {k : Int32 → qS → Prop} (hx : p.tables.exec = Jvm.exec) (hb : c.code = cX10_put) (hml : c.maxLocals = 8) (hown : s.vm.findClass RX10 = some m.cls) (hts : ∀ w ∈ wsX10_put, w.before args s = true) (hA : ∀ q : Nat, s.heap.size ≤ q → A q) (hKn : qKn G A s s.heap) (hret : ∀ (r : Int32) (q : qS) (H : Heap) (locs : List Loc) (ls : Array Slot) (pc : Nat), k r q → va_P G.1 vwCl (wM G a q ++ R) H → va_D A (wM G a q ++ R) → va_S A s.heap H locs → decode cX10_put pc = .ok (.ireturn, 1) → W p l e rmX10_put s m args below meth c H locs 0 0 Qf (F0 m pc ls [.int r])) : ∀ (n : Nat) (q : qS) (x1 : Int64) (x3 : Int32) (x7 : Int32) (H : Heap) (locs : List Loc) (ls : Array Slot), wX10_put_b108 k n q x1 x3 x7 → va_P G.1 vwCl (wM G a q ++ R) H → va_D A (wM G a q ++ R) → va_S A s.heap H locs → lv_has ls 8 [(0, .ref (a 0)), (1, .long x1), (3, .int x3), (7, .int x7)] → W p l e rmX10_put s m args below meth c H locs 0 0 Qf (F0 m 108 ls []) := by
  intro n
  induction n with
  | zero => intros; rename_i h _ _ _ _; exact h.elim
  | succ n ih =>
    intro q x1 x3 x7 H locs ls h hP hD hS hl
    unfold wX10_put_b108 at h
    refine lv_iload hx hb dX10_put_108 (lv_at hl 3 rfl) ?_
    refine lv_iload_n hx hb dX10_put_110 rfl (lv_at hl 2 rfl) ?_
    refine lv_icmp_ge (tgt := 148) hx hb dX10_put_111 (by decide) (fun c1 => ?_) (fun c1 => ?_)
    · have h := h.1 c1
      refine lv_aload_n hx hb dX10_put_148 rfl (lv_at hl 0 rfl) ?_
      refine lv_dup hx hb dX10_put_149 rfl ?_
      refine va_get (D := G.1) (ci := 10) (v := .int (q 0 8)) (C := RX10) (T := TX10) (N := 15) hx hb hts iX10_put_X10 hown hKn.k hP 0 rfl rfl 8 (by decide) (hts _ lX10_put_f144) (fun _ h9 => h9) rfl dX10_put_150 ?_
      refine lv_iload_n hx hb dX10_put_153 rfl (lv_at hl 2 rfl) ?_
      refine lv_iadd hx hb dX10_put_154 ?_
      refine lv_topi (fun y2 ey2 => ?_)
      have h := h y2 ey2
      refine va_put (D := G.1) (ci := 10) (v := .int y2) (ty := .int) (C := RX10) (T := TX10) (N := 15) hx hb hts iX10_put_X10 tyX10 tyX10_ok nmX10 hown hKn.k hP hD hS 0 rfl rfl 8 (by decide) (hts _ lX10_put_f144) (fun _ h9 => h9) rfl (by decide +kernel) rfl rfl (Nat.le_of_ble_eq_true rfl) dX10_put_155 (fun H locs hP hD hS => ?_)
      obtain ⟨q3, eq3⟩ : ∃ z : qS, z = up2 q 0 8 y2 := ⟨_, rfl⟩
      have hP : va_P G.1 vwCl (wM G a q3 ++ R) H := by rw [eq3]; exact hP
      have hD : va_D A (wM G a q3 ++ R) := by rw [eq3]; exact hD
      have h := h q3 eq3
      refine lv_aload_n hx hb dX10_put_158 rfl (lv_at hl 0 rfl) ?_
      refine va_get (D := G.1) (ci := 10) (v := .int (q3 0 8)) (C := RX10) (T := TX10) (N := 15) hx hb hts iX10_put_X10 hown hKn.k hP 0 rfl rfl 8 (by decide) (hts _ lX10_put_f144) (fun _ h9 => h9) rfl dX10_put_159 ?_
      exact hret _ _ _ _ _ _ h hP hD hS dX10_put_162
    · have h := h.2 c1
      refine lv_aload_n hx hb dX10_put_114 rfl (lv_at hl 0 rfl) ?_
      refine va_get (D := G.1) (ci := 10) (v := .ref (a 7)) (C := RX10) (T := TX10) (N := 15) hx hb hts iX10_put_X10 hown hKn.k hP 0 rfl rfl 7 (by decide) (hts _ lX10_put_f26) (fun _ h9 => h9) rfl dX10_put_115 ?_
      refine lv_aload_n hx hb dX10_put_118 rfl (lv_at hl 0 rfl) ?_
      refine va_get (D := G.1) (ci := 10) (v := .int (q 0 8)) (C := RX10) (T := TX10) (N := 15) hx hb hts iX10_put_X10 hown hKn.k hP 0 rfl rfl 8 (by decide) (hts _ lX10_put_f144) (fun _ h9 => h9) rfl dX10_put_119 ?_
      refine lv_iload hx hb dX10_put_122 (lv_at hl 3 rfl) ?_
      refine lv_iadd hx hb dX10_put_124 ?_
      refine lv_lload_n hx hb dX10_put_125 rfl (lv_at hl 1 rfl) ?_
      refine lv_bipush (v := (8 : Int32)) hx hb dX10_put_126 (by decide) ?_
      refine lv_iload_n hx hb dX10_put_128 rfl (lv_at hl 2 rfl) ?_
      refine lv_iconst (v := (1 : Int32)) hx hb dX10_put_129 (by decide) ?_
      refine lv_isub hx hb dX10_put_130 ?_
      refine lv_iload hx hb dX10_put_131 (lv_at hl 3 rfl) ?_
      refine lv_isub hx hb dX10_put_133 ?_
      refine lv_imul hx hb dX10_put_134 ?_
      refine lv_lushr hx hb dX10_put_135 rfl ?_
      refine lv_ldc2 (v := (255 : Int64)) hx hb hown (hts _ lX10_put_c154) dX10_put_136 ?_
      refine lv_land hx hb dX10_put_139 ?_
      refine lv_l2i hx hb dX10_put_140 rfl ?_
      refine lv_topi (fun y4 ey4 => ?_)
      have h := h y4 ey4
      obtain ⟨hin, h⟩ := h
      refine va_iast hx hb hKn.k hP hD hS 6 0 rfl rfl hin dX10_put_141 (fun H locs hP hD hS => ?_)
      obtain ⟨q5, eq5⟩ : ∃ z : qS, z = up2 q 7 (Int32.toNatClampNeg ((q 0 8) + x7)) y4 := ⟨_, rfl⟩
      have hP : va_P G.1 vwCl (wM G a q5 ++ R) H := by rw [eq5]; exact hP
      have hD : va_D A (wM G a q5 ++ R) := by rw [eq5]; exact hD
      have h := h q5 eq5
      obtain ⟨y6, ey6⟩ : ∃ z : Int32, z = x7 + (1 : Int32) := ⟨_, rfl⟩
      have h := h y6 ey6
      refine lv_iinc (v := y6) (lv' := [(7, .int y6), (0, .ref (a 0)), (1, .long x1), (3, .int x3)]) hx hb dX10_put_142 hl (k := 3) rfl (by rw [ey6]; rfl) (by decide) rfl (fun ls hl => ?_)
      refine lv_goto (tgt := 108) hx hb dX10_put_145 (by decide) ?_
      exact ih q5 x1 x3 y6 _ _ _ h hP hD hS (lv_sub hl [1, 2, 3, 0] rfl)
set_option maxHeartbeats 4000000 in
set_option maxRecDepth 100000 in
theorem kX10_put_b72 {p : Program} {l : Launch} {e : Env} {s : State} {m : MethodId} {args : Array Value} {below : List Frame} {meth : Method} {c : Code} {G : qG} {A : Nat → Prop} {Qf : State → Prop} {R : va_W} {a : Nat → Nat} {k : Int32 → qS → Prop} (hx : p.tables.exec = Jvm.exec) (hb : c.code = cX10_put) (hml : c.maxLocals = 8) (hown : s.vm.findClass RX10 = some m.cls) (hts : ∀ w ∈ wsX10_put, w.before args s = true) (hA : ∀ q : Nat, s.heap.size ≤ q → A q) (hKn : qKn G A s s.heap) (hret : ∀ (r : Int32) (q : qS) (H : Heap) (locs : List Loc) (ls : Array Slot) (pc : Nat), k r q → va_P G.1 vwCl (wM G a q ++ R) H → va_D A (wM G a q ++ R) → va_S A s.heap H locs → decode cX10_put pc = .ok (.ireturn, 1) → W p l e rmX10_put s m args below meth c H locs 0 0 Qf (F0 m pc ls [.int r])) : ∀ (q : qS) (x1 : Int64) (x3 : Int32) (x4 : Int64) (x6 : Int32) (H : Heap) (locs : List Loc) (ls : Array Slot), wX10_put_b72 k q x1 x3 x4 x6 → va_P G.1 vwCl (wM G a q ++ R) H → va_D A (wM G a q ++ R) → va_S A s.heap H locs → lv_has ls 8 [(0, .ref (a 0)), (1, .long x1), (3, .int x3), (4, .long x4), (6, .int x6)] → W p l e rmX10_put s m args below meth c H locs 0 0 Qf (F0 m 72 ls []) := by
  intro q x1 x3 x4 x6 H locs ls h hP hD hS hl
  unfold wX10_put_b72 at h
  refine lv_iload_n hx hb dX10_put_72 rfl (lv_at hl 2 rfl) ?_
  refine lv_if_eq (tgt := 88) hx hb dX10_put_73 (by decide) (fun c1 => ?_) (fun c1 => ?_)
  · have h := h.1 c1
    exact kX10_put_b88 hx hb hml hown hts hA hKn hret q _ _ _ h hP hD hS (lv_sub hl [] rfl)
  · have h := h.2 c1
    refine lv_iload hx hb dX10_put_76 (lv_at hl 4 rfl) ?_
    refine lv_if_eq (tgt := 88) hx hb dX10_put_78 (by decide) (fun c1 => ?_) (fun c1 => ?_)
    · have h := h.1 c1
      exact kX10_put_b88 hx hb hml hown hts hA hKn hret q _ _ _ h hP hD hS (lv_sub hl [] rfl)
    · have h := h.2 c1
      refine lv_lload hx hb dX10_put_81 (lv_at hl 3 rfl) ?_
      refine lv_lconst (v := (0 : Int64)) hx hb dX10_put_83 (by decide) ?_
      refine W.lcmp hx hb dX10_put_84 ?_
      refine lv_if_eq (tgt := 91) hx hb dX10_put_85 (by decide) (fun c1 => ?_) (fun c1 => ?_)
      · have h := h.1 c1
        refine lv_aload_n hx hb dX10_put_91 rfl (lv_at hl 0 rfl) ?_
        refine va_get (D := G.1) (ci := 10) (v := .int (q 0 8)) (C := RX10) (T := TX10) (N := 15) hx hb hts iX10_put_X10 hown hKn.k hP 0 rfl rfl 8 (by decide) (hts _ lX10_put_f144) (fun _ h9 => h9) rfl dX10_put_92 ?_
        refine lv_iload_n hx hb dX10_put_95 rfl (lv_at hl 2 rfl) ?_
        refine lv_iadd hx hb dX10_put_96 ?_
        refine lv_bipush (v := (80 : Int32)) hx hb dX10_put_97 (by decide) ?_
        refine lv_icmp_le (tgt := 105) hx hb dX10_put_99 (by decide) (fun c1 => ?_) (fun c1 => ?_)
        · have h := h.1 c1
          refine lv_iconst (v := (0 : Int32)) hx hb dX10_put_105 (by decide) ?_
          refine lv_istore (lv' := [(7, .int (0 : Int32)), (0, .ref (a 0)), (1, .long x1), (3, .int x3), (4, .long x4), (6, .int x6)]) hx hb dX10_put_106 hl (by decide) rfl (fun ls hl => ?_)
          obtain ⟨n7, h⟩ := h
          exact kX10_put_b108 hx hb hml hown hts hA hKn hret n7 q x1 x3 (0 : Int32) _ _ _ h hP hD hS (lv_sub hl [1, 2, 3, 0] rfl)
        · have h := h.2 c1
          refine lv_bipush (v := (-4 : Int32)) hx hb dX10_put_102 (by decide) ?_
          exact hret _ _ _ _ _ _ h hP hD hS dX10_put_104
      · have h := h.2 c1
        exact kX10_put_b88 hx hb hml hown hts hA hKn hret q _ _ _ h hP hD hS (lv_sub hl [] rfl)
set_option maxHeartbeats 4000000 in
set_option maxRecDepth 100000 in
theorem kX10_put_b13 {p : Program} {l : Launch} {e : Env} {s : State} {m : MethodId} {args : Array Value} {below : List Frame} {meth : Method} {c : Code} {G : qG} {A : Nat → Prop} {Qf : State → Prop} {R : va_W} {a : Nat → Nat} {k : Int32 → qS → Prop} (hx : p.tables.exec = Jvm.exec) (hb : c.code = cX10_put) (hml : c.maxLocals = 8) (hown : s.vm.findClass RX10 = some m.cls) (hts : ∀ w ∈ wsX10_put, w.before args s = true) (hA : ∀ q : Nat, s.heap.size ≤ q → A q) (hKn : qKn G A s s.heap) (hret : ∀ (r : Int32) (q : qS) (H : Heap) (locs : List Loc) (ls : Array Slot) (pc : Nat), k r q → va_P G.1 vwCl (wM G a q ++ R) H → va_D A (wM G a q ++ R) → va_S A s.heap H locs → decode cX10_put pc = .ok (.ireturn, 1) → W p l e rmX10_put s m args below meth c H locs 0 0 Qf (F0 m pc ls [.int r])) : ∀ (n : Nat) (q : qS) (x1 : Int64) (x3 : Int32) (x4 : Int64) (x6 : Int32) (H : Heap) (locs : List Loc) (ls : Array Slot), wX10_put_b13 k n q x1 x3 x4 x6 → va_P G.1 vwCl (wM G a q ++ R) H → va_D A (wM G a q ++ R) → va_S A s.heap H locs → lv_has ls 8 [(0, .ref (a 0)), (1, .long x1), (3, .int x3), (4, .long x4), (6, .int x6)] → W p l e rmX10_put s m args below meth c H locs 0 0 Qf (F0 m 13 ls []) := by
  intro n
  induction n with
  | zero => intros; rename_i h _ _ _ _; exact h.elim
  | succ n ih =>
    intro q x1 x3 x4 x6 H locs ls h hP hD hS hl
    unfold wX10_put_b13 at h
    refine lv_iload_n hx hb dX10_put_13 rfl (lv_at hl 2 rfl) ?_
    refine lv_bipush (v := (8 : Int32)) hx hb dX10_put_14 (by decide) ?_
    refine lv_icmp_ge (tgt := 72) hx hb dX10_put_16 (by decide) (fun c1 => ?_) (fun c1 => ?_)
    · have h := h.1 c1
      exact kX10_put_b72 hx hb hml hown hts hA hKn hret q x1 x3 x4 x6 _ _ _ h hP hD hS (lv_sub hl [0, 1, 2, 3, 4] rfl)
    · have h := h.2 c1
      refine lv_lload hx hb dX10_put_19 (lv_at hl 3 rfl) ?_
      refine lv_ldc2 (v := (255 : Int64)) hx hb hown (hts _ lX10_put_c154) dX10_put_21 ?_
      refine lv_land hx hb dX10_put_24 ?_
      refine lv_lconst (v := (0 : Int64)) hx hb dX10_put_25 (by decide) ?_
      refine W.lcmp hx hb dX10_put_26 ?_
      refine lv_if_eq (tgt := 72) hx hb dX10_put_27 (by decide) (fun c1 => ?_) (fun c1 => ?_)
      · have h := h.1 c1
        exact kX10_put_b72 hx hb hml hown hts hA hKn hret q x1 x3 x4 x6 _ _ _ h hP hD hS (lv_sub hl [0, 1, 2, 3, 4] rfl)
      · have h := h.2 c1
        refine lv_iload hx hb dX10_put_30 (lv_at hl 4 rfl) ?_
        refine lv_if_eq (tgt := 56) hx hb dX10_put_32 (by decide) (fun c1 => ?_) (fun c1 => ?_)
        · have h := h.1 c1
          exact kX10_put_b56 hx hb hml hown hts hA hKn hret ih q x1 x3 x4 _ _ _ h hP hD hS (lv_sub hl [0, 1, 2, 3] rfl)
        · have h := h.2 c1
          refine lv_lload hx hb dX10_put_35 (lv_at hl 3 rfl) ?_
          refine lv_ldc2 (v := (255 : Int64)) hx hb hown (hts _ lX10_put_c154) dX10_put_37 ?_
          refine lv_land hx hb dX10_put_40 ?_
          refine lv_l2i hx hb dX10_put_41 rfl ?_
          refine lv_bipush (v := (33 : Int32)) hx hb dX10_put_42 (by decide) ?_
          refine lv_bipush (v := (126 : Int32)) hx hb dX10_put_44 (by decide) ?_
          refine qc_si (As := [.int ((x4 &&& (255 : Int64))).toInt32, .int (33 : Int32), .int (126 : Int32)]) (rest := []) ⟨hx, hb, hml, hown, hts⟩ (mX10_in l G _ _ _ ((x4 &&& (255 : Int64))).toInt32 (33 : Int32) (126 : Int32)) (cwS 3 hts gX10_put_X10_in rfl rfl rfl (by decide +kernel) ⟨Nat.le_of_ble_eq_true rfl, Nat.le_of_ble_eq_true rfl⟩) hP hD hS hA hKn h rfl hl.1 rfl (Nat.le_of_ble_eq_true rfl) dX10_put_46 ⟨Nat.zero_le _, Nat.zero_le _⟩ (fun r8 _ H locs h hP hD hS => ?_)
          have hP : va_P G.1 vwCl (wM G a q ++ R) H := hP
          have hD : va_D A (wM G a q ++ R) := hD
          refine lv_if_eq (tgt := 56) hx hb dX10_put_49 (by decide) (fun c1 => ?_) (fun c1 => ?_)
          · have h := h.1 c1
            exact kX10_put_b56 hx hb hml hown hts hA hKn hret ih q x1 x3 x4 _ _ _ h hP hD hS (lv_sub hl [0, 1, 2, 3] rfl)
          · have h := h.2 c1
            refine lv_iconst (v := (1 : Int32)) hx hb dX10_put_52 (by decide) ?_
            refine lv_goto (tgt := 57) hx hb dX10_put_53 (by decide) ?_
            exact kX10_put_b57 hx hb hml hown hts hA hKn hret ih q x1 x3 x4 (1 : Int32) _ _ _ h hP hD hS (lv_sub hl [0, 1, 2, 3] rfl)
set_option maxHeartbeats 4000000 in
set_option maxRecDepth 100000 in
theorem mX10_put (l : Launch) (G : qG) (k : Int32 → qS → Prop) (R : va_W) (a : Nat → Nat) (q : qS) (sz : Nat) (p0 : Int64) : Met l yX10_put wsX10_put rmX10_put (qPc G [.ref (a 0), .long p0] (wM G a q ++ R) sz (wX10_put k q p0)) (qQi G (wM G a q ++ R) sz (fun (r : Int32) (u : qS) => k r u) (fun (u : qS) => wM G a u ++ R)) 0 0 (va_A (wM G a q ++ R) sz) := by
  refine Met.ofW (cc := cX10_put) (maxL := 8) (ret := (some .int)) (by decide) rfl ?_
  intro p e s m args below meth c s₁ B hml hv
  obtain ⟨rfl, hsz, hP, hD0, hKn0, h⟩ := hv
  have hx := B.exec
  have hb := B.bytes
  have hr := B.returns
  have hts := atoms_spec (ws := wsX10_put) B.pre
  have hown : s.vm.findClass RX10 = some m.cls := findClass_of_methodNamed B.named
  have hlocks := B.notSynchronized
  subst hsz
  have hD := hD0.self (sz := s.heap.size)
  generalize hAe : va_A (wM G a q ++ R) s.heap.size = A at hD hKn0 ⊢
  have hA : ∀ q : Nat, s.heap.size ≤ q → A q := fun q h => by rw [← hAe]; exact Or.inr h
  have hKn : qKn G A s s.heap := hKn0
  have hS : va_S A s.heap s.heap [] := va_S.rf
  have hret : ∀ (r : Int32) (q' : qS) (H : Heap) (locs : List Loc) (ls : Array Slot) (pc : Nat), k r q' → va_P G.1 vwCl (wM G a q' ++ R) H → va_D A (wM G a q' ++ R) → va_S A s.heap H locs → decode cX10_put pc = .ok (.ireturn, 1) → W p l e rmX10_put s m #[.ref (a 0), .long p0] below meth c H locs 0 0 (MQ below (qQi G (wM G a q ++ R) s.heap.size (fun (r : Int32) (u : qS) => k r u) (fun (u : qS) => wM G a u ++ R)) #[.ref (a 0), .long p0] s 0 0 A) (F0 m pc ls [.int r]) := fun r q' H locs ls pc hk hP hD hS hd => W.iret hx hb hr (fun t ht hW => q_ri (u := (q' : qS)) hAe hk hP hD hS ht) hS.2.2 hd
  have hl := lv_entry ([.ref (a 0), .long p0]) (n := 8) (Nat.le_of_ble_eq_true rfl)
  rw [lg_entry_eq]
  generalize (lg_sl ([.ref (a 0), .long p0]) ++ List.replicate (8 - (lg_sl ([.ref (a 0), .long p0])).length) Slot.unset).toArray = ls at hl ⊢
  have hl : lv_has ls 8 [(0, .ref (a 0)), (1, .long p0)] := hl
  unfold wX10_put at h
  show W p l e rmX10_put s m #[.ref (a 0), .long p0] below meth c s.heap [] 0 0 _ _
  refine lv_aload_n hx hb dX10_put_0 rfl (lv_at hl 0 rfl) ?_
  refine lv_iconst (v := (0 : Int32)) hx hb dX10_put_1 (by decide) ?_
  refine va_put (D := G.1) (ci := 10) (v := .int (0 : Int32)) (ty := .int) (C := RX10) (T := TX10) (N := 15) hx hb hts iX10_put_X10 tyX10 tyX10_ok nmX10 hown hKn.k hP hD hS 0 rfl rfl 0 (by decide) (hts _ lX10_put_f32) (fun _ h9 => h9) rfl (by decide +kernel) rfl rfl (Nat.le_of_ble_eq_true rfl) dX10_put_2 (fun H locs hP hD hS => ?_)
  obtain ⟨q9, eq9⟩ : ∃ z : qS, z = up2 q 0 0 (0 : Int32) := ⟨_, rfl⟩
  have hP : va_P G.1 vwCl (wM G a q9 ++ R) H := by rw [eq9]; exact hP
  have hD : va_D A (wM G a q9 ++ R) := by rw [eq9]; exact hD
  have h := h q9 eq9
  refine lv_iconst (v := (0 : Int32)) hx hb dX10_put_5 (by decide) ?_
  refine lv_istore_n (lv' := [(3, .int (0 : Int32)), (0, .ref (a 0)), (1, .long p0)]) hx hb dX10_put_6 rfl hl (by decide) rfl (fun ls hl => ?_)
  refine lv_lload_n hx hb dX10_put_7 rfl (lv_at hl 2 rfl) ?_
  refine lv_lstore (lv' := [(4, .long p0), (3, .int (0 : Int32)), (0, .ref (a 0)), (1, .long p0)]) hx hb dX10_put_8 hl (by decide) rfl (fun ls hl => ?_)
  refine lv_iconst (v := (1 : Int32)) hx hb dX10_put_10 (by decide) ?_
  refine lv_istore (lv' := [(6, .int (1 : Int32)), (4, .long p0), (3, .int (0 : Int32)), (0, .ref (a 0)), (1, .long p0)]) hx hb dX10_put_11 hl (by decide) rfl (fun ls hl => ?_)
  obtain ⟨n10, h⟩ := h
  exact kX10_put_b13 hx hb hml hown hts hA hKn hret n10 q9 p0 (0 : Int32) p0 (1 : Int32) _ _ _ h hP hD hS (lv_sub hl [3, 4, 2, 1, 0] rfl)
abbrev rmX10_wipe : Room := { frames := 0, cells := 0, slots := 0, locals := 0 }
theorem lX10_wipe_f144 : Cond.fieldLink RX10 144 "QuarryBlendsModel" "length" "I" ∈ wsX10_wipe := by decide +kernel
theorem lX10_wipe_f32 : Cond.fieldLink RX10 32 "QuarryBlendsModel" "thrown" "I" ∈ wsX10_wipe := by decide +kernel
theorem iX10_wipe_X10 : ∀ w ∈ wsX100, w ∈ wsX10_wipe := by decide +kernel
set_option maxHeartbeats 4000000 in
set_option maxRecDepth 100000 in
theorem mX10_wipe (l : Launch) (G : qG) (k : Int32 → qS → Prop) (R : va_W) (a : Nat → Nat) (q : qS) (sz : Nat) : Met l yX10_wipe wsX10_wipe rmX10_wipe (qPc G [.ref (a 0)] (wM G a q ++ R) sz (wX10_wipe k q)) (qQi G (wM G a q ++ R) sz (fun (r : Int32) (u : qS) => k r u) (fun (u : qS) => wM G a u ++ R)) 0 0 (va_A (wM G a q ++ R) sz) := by
  refine Met.ofW (cc := cX10_wipe) (maxL := 2) (ret := (some .int)) (by decide) rfl ?_
  intro p e s m args below meth c s₁ B hml hv
  obtain ⟨rfl, hsz, hP, hD0, hKn0, h⟩ := hv
  have hx := B.exec
  have hb := B.bytes
  have hr := B.returns
  have hts := atoms_spec (ws := wsX10_wipe) B.pre
  have hown : s.vm.findClass RX10 = some m.cls := findClass_of_methodNamed B.named
  have hlocks := B.notSynchronized
  subst hsz
  have hD := hD0.self (sz := s.heap.size)
  generalize hAe : va_A (wM G a q ++ R) s.heap.size = A at hD hKn0 ⊢
  have hA : ∀ q : Nat, s.heap.size ≤ q → A q := fun q h => by rw [← hAe]; exact Or.inr h
  have hKn : qKn G A s s.heap := hKn0
  have hS : va_S A s.heap s.heap [] := va_S.rf
  have hret : ∀ (r : Int32) (q' : qS) (H : Heap) (locs : List Loc) (ls : Array Slot) (pc : Nat), k r q' → va_P G.1 vwCl (wM G a q' ++ R) H → va_D A (wM G a q' ++ R) → va_S A s.heap H locs → decode cX10_wipe pc = .ok (.ireturn, 1) → W p l e rmX10_wipe s m #[.ref (a 0)] below meth c H locs 0 0 (MQ below (qQi G (wM G a q ++ R) s.heap.size (fun (r : Int32) (u : qS) => k r u) (fun (u : qS) => wM G a u ++ R)) #[.ref (a 0)] s 0 0 A) (F0 m pc ls [.int r]) := fun r q' H locs ls pc hk hP hD hS hd => W.iret hx hb hr (fun t ht hW => q_ri (u := (q' : qS)) hAe hk hP hD hS ht) hS.2.2 hd
  have hl := lv_entry ([.ref (a 0)]) (n := 2) (Nat.le_of_ble_eq_true rfl)
  rw [lg_entry_eq]
  generalize (lg_sl ([.ref (a 0)]) ++ List.replicate (2 - (lg_sl ([.ref (a 0)])).length) Slot.unset).toArray = ls at hl ⊢
  have hl : lv_has ls 2 [(0, .ref (a 0))] := hl
  unfold wX10_wipe at h
  show W p l e rmX10_wipe s m #[.ref (a 0)] below meth c s.heap [] 0 0 _ _
  refine lv_aload_n hx hb dX10_wipe_0 rfl (lv_at hl 0 rfl) ?_
  refine lv_iconst (v := (0 : Int32)) hx hb dX10_wipe_1 (by decide) ?_
  refine va_put (D := G.1) (ci := 10) (v := .int (0 : Int32)) (ty := .int) (C := RX10) (T := TX10) (N := 15) hx hb hts iX10_wipe_X10 tyX10 tyX10_ok nmX10 hown hKn.k hP hD hS 0 rfl rfl 0 (by decide) (hts _ lX10_wipe_f32) (fun _ h9 => h9) rfl (by decide +kernel) rfl rfl (Nat.le_of_ble_eq_true rfl) dX10_wipe_2 (fun H locs hP hD hS => ?_)
  obtain ⟨q1, eq1⟩ : ∃ z : qS, z = up2 q 0 0 (0 : Int32) := ⟨_, rfl⟩
  have hP : va_P G.1 vwCl (wM G a q1 ++ R) H := by rw [eq1]; exact hP
  have hD : va_D A (wM G a q1 ++ R) := by rw [eq1]; exact hD
  have h := h q1 eq1
  refine lv_aload_n hx hb dX10_wipe_5 rfl (lv_at hl 0 rfl) ?_
  refine va_get (D := G.1) (ci := 10) (v := .int (q1 0 8)) (C := RX10) (T := TX10) (N := 15) hx hb hts iX10_wipe_X10 hown hKn.k hP 0 rfl rfl 8 (by decide) (hts _ lX10_wipe_f144) (fun _ h9 => h9) rfl dX10_wipe_6 ?_
  refine lv_topi (fun y2 ey2 => ?_)
  have h := h y2 ey2
  refine lv_istore_n (lv' := [(1, .int y2), (0, .ref (a 0))]) hx hb dX10_wipe_9 rfl hl (by decide) rfl (fun ls hl => ?_)
  refine lv_aload_n hx hb dX10_wipe_10 rfl (lv_at hl 1 rfl) ?_
  refine lv_iconst (v := (0 : Int32)) hx hb dX10_wipe_11 (by decide) ?_
  refine va_put (D := G.1) (ci := 10) (v := .int (0 : Int32)) (ty := .int) (C := RX10) (T := TX10) (N := 15) hx hb hts iX10_wipe_X10 tyX10 tyX10_ok nmX10 hown hKn.k hP hD hS 0 rfl rfl 8 (by decide) (hts _ lX10_wipe_f144) (fun _ h9 => h9) rfl (by decide +kernel) rfl rfl (Nat.le_of_ble_eq_true rfl) dX10_wipe_12 (fun H locs hP hD hS => ?_)
  obtain ⟨q3, eq3⟩ : ∃ z : qS, z = up2 q1 0 8 (0 : Int32) := ⟨_, rfl⟩
  have hP : va_P G.1 vwCl (wM G a q3 ++ R) H := by rw [eq3]; exact hP
  have hD : va_D A (wM G a q3 ++ R) := by rw [eq3]; exact hD
  have h := h q3 eq3
  refine lv_iload_n hx hb dX10_wipe_15 rfl (lv_at hl 0 rfl) ?_
  exact hret _ _ _ _ _ _ h hP hD hS dX10_wipe_16
abbrev rmX10_sign : Room := { frames := 0, cells := 0, slots := 0, locals := 0 }
theorem lX10_sign_f144 : Cond.fieldLink RX10 144 "QuarryBlendsModel" "length" "I" ∈ wsX10_sign := by decide +kernel
theorem lX10_sign_f156 : Cond.fieldLink RX10 156 "QuarryBlendsModel" "at" "I" ∈ wsX10_sign := by decide +kernel
theorem lX10_sign_f26 : Cond.fieldLink RX10 26 "QuarryBlendsModel" "pad" "[I" ∈ wsX10_sign := by decide +kernel
theorem iX10_sign_X10 : ∀ w ∈ wsX100, w ∈ wsX10_sign := by decide +kernel
set_option maxHeartbeats 4000000 in
set_option maxRecDepth 100000 in
theorem kX10_sign_b24 {p : Program} {l : Launch} {e : Env} {s : State} {m : MethodId} {args : Array Value} {below : List Frame} {meth : Method} {c : Code} {G : qG} {A : Nat → Prop} {Qf : State → Prop} {R : va_W} {a : Nat → Nat} {k : Int32 → qS → Prop} (hx : p.tables.exec = Jvm.exec) (hb : c.code = cX10_sign) (hml : c.maxLocals = 1) (hown : s.vm.findClass RX10 = some m.cls) (hts : ∀ w ∈ wsX10_sign, w.before args s = true) (hA : ∀ q : Nat, s.heap.size ≤ q → A q) (hKn : qKn G A s s.heap) (hret : ∀ (r : Int32) (q : qS) (H : Heap) (locs : List Loc) (ls : Array Slot) (pc : Nat), k r q → va_P G.1 vwCl (wM G a q ++ R) H → va_D A (wM G a q ++ R) → va_S A s.heap H locs → decode cX10_sign pc = .ok (.ireturn, 1) → W p l e rmX10_sign s m args below meth c H locs 0 0 Qf (F0 m pc ls [.int r])) : ∀ (q : qS) (z0 : Int32) (H : Heap) (locs : List Loc) (ls : Array Slot), wX10_sign_b24 k q z0 → va_P G.1 vwCl (wM G a q ++ R) H → va_D A (wM G a q ++ R) → va_S A s.heap H locs → lv_has ls 1 [] → W p l e rmX10_sign s m args below meth c H locs 0 0 Qf (F0 m 24 ls [.int z0]) := by
  intro q z0 H locs ls h hP hD hS hl
  unfold wX10_sign_b24 at h
  exact hret _ _ _ _ _ _ h hP hD hS dX10_sign_24
set_option maxHeartbeats 4000000 in
set_option maxRecDepth 100000 in
theorem mX10_sign (l : Launch) (G : qG) (k : Int32 → qS → Prop) (R : va_W) (a : Nat → Nat) (q : qS) (sz : Nat) : Met l yX10_sign wsX10_sign rmX10_sign (qPc G [.ref (a 0)] (wM G a q ++ R) sz (wX10_sign k q)) (qQi G (wM G a q ++ R) sz (fun (r : Int32) (u : qS) => k r u) (fun (u : qS) => wM G a u ++ R)) 0 0 (va_A (wM G a q ++ R) sz) := by
  refine Met.ofW (cc := cX10_sign) (maxL := 1) (ret := (some .int)) (by decide) rfl ?_
  intro p e s m args below meth c s₁ B hml hv
  obtain ⟨rfl, hsz, hP, hD0, hKn0, h⟩ := hv
  have hx := B.exec
  have hb := B.bytes
  have hr := B.returns
  have hts := atoms_spec (ws := wsX10_sign) B.pre
  have hown : s.vm.findClass RX10 = some m.cls := findClass_of_methodNamed B.named
  have hlocks := B.notSynchronized
  subst hsz
  have hD := hD0.self (sz := s.heap.size)
  generalize hAe : va_A (wM G a q ++ R) s.heap.size = A at hD hKn0 ⊢
  have hA : ∀ q : Nat, s.heap.size ≤ q → A q := fun q h => by rw [← hAe]; exact Or.inr h
  have hKn : qKn G A s s.heap := hKn0
  have hS : va_S A s.heap s.heap [] := va_S.rf
  have hret : ∀ (r : Int32) (q' : qS) (H : Heap) (locs : List Loc) (ls : Array Slot) (pc : Nat), k r q' → va_P G.1 vwCl (wM G a q' ++ R) H → va_D A (wM G a q' ++ R) → va_S A s.heap H locs → decode cX10_sign pc = .ok (.ireturn, 1) → W p l e rmX10_sign s m #[.ref (a 0)] below meth c H locs 0 0 (MQ below (qQi G (wM G a q ++ R) s.heap.size (fun (r : Int32) (u : qS) => k r u) (fun (u : qS) => wM G a u ++ R)) #[.ref (a 0)] s 0 0 A) (F0 m pc ls [.int r]) := fun r q' H locs ls pc hk hP hD hS hd => W.iret hx hb hr (fun t ht hW => q_ri (u := (q' : qS)) hAe hk hP hD hS ht) hS.2.2 hd
  have hl := lv_entry ([.ref (a 0)]) (n := 1) (Nat.le_of_ble_eq_true rfl)
  rw [lg_entry_eq]
  generalize (lg_sl ([.ref (a 0)]) ++ List.replicate (1 - (lg_sl ([.ref (a 0)])).length) Slot.unset).toArray = ls at hl ⊢
  have hl : lv_has ls 1 [(0, .ref (a 0))] := hl
  unfold wX10_sign at h
  show W p l e rmX10_sign s m #[.ref (a 0)] below meth c s.heap [] 0 0 _ _
  refine lv_aload_n hx hb dX10_sign_0 rfl (lv_at hl 0 rfl) ?_
  refine va_get (D := G.1) (ci := 10) (v := .int (q 0 11)) (C := RX10) (T := TX10) (N := 15) hx hb hts iX10_sign_X10 hown hKn.k hP 0 rfl rfl 11 (by decide) (hts _ lX10_sign_f156) (fun _ h9 => h9) rfl dX10_sign_1 ?_
  refine lv_aload_n hx hb dX10_sign_4 rfl (lv_at hl 0 rfl) ?_
  refine va_get (D := G.1) (ci := 10) (v := .int (q 0 8)) (C := RX10) (T := TX10) (N := 15) hx hb hts iX10_sign_X10 hown hKn.k hP 0 rfl rfl 8 (by decide) (hts _ lX10_sign_f144) (fun _ h9 => h9) rfl dX10_sign_5 ?_
  refine lv_icmp_ge (tgt := 23) hx hb dX10_sign_8 (by decide) (fun c1 => ?_) (fun c1 => ?_)
  · have h := h.1 c1
    refine lv_iconst (v := (0 : Int32)) hx hb dX10_sign_23 (by decide) ?_
    exact kX10_sign_b24 hx hb hml hown hts hA hKn hret q (0 : Int32) _ _ _ h hP hD hS (lv_sub hl [] rfl)
  · have h := h.2 c1
    refine lv_aload_n hx hb dX10_sign_11 rfl (lv_at hl 0 rfl) ?_
    refine va_get (D := G.1) (ci := 10) (v := .ref (a 7)) (C := RX10) (T := TX10) (N := 15) hx hb hts iX10_sign_X10 hown hKn.k hP 0 rfl rfl 7 (by decide) (hts _ lX10_sign_f26) (fun _ h9 => h9) rfl dX10_sign_12 ?_
    refine lv_aload_n hx hb dX10_sign_15 rfl (lv_at hl 0 rfl) ?_
    refine va_get (D := G.1) (ci := 10) (v := .int (q 0 11)) (C := RX10) (T := TX10) (N := 15) hx hb hts iX10_sign_X10 hown hKn.k hP 0 rfl rfl 11 (by decide) (hts _ lX10_sign_f156) (fun _ h9 => h9) rfl dX10_sign_16 ?_
    obtain ⟨hin, h⟩ := h
    refine va_iald hx hb hKn.k hP 6 0 rfl rfl hin dX10_sign_19 ?_
    refine lv_goto (tgt := 24) hx hb dX10_sign_20 (by decide) ?_
    exact kX10_sign_b24 hx hb hml hown hts hA hKn hret q (q 7 (Int32.toNatClampNeg (q 0 11))) _ _ _ h hP hD hS (lv_sub hl [] rfl)
abbrev rmX10_wants : Room := { frames := 1, cells := 0, slots := 0, locals := 20 }
theorem lX10_wants_f156 : Cond.fieldLink RX10 156 "QuarryBlendsModel" "at" "I" ∈ wsX10_wants := by decide +kernel
theorem lX10_wants_f159 : Cond.fieldLink RX10 159 "QuarryBlendsModel" "isWell" "Z" ∈ wsX10_wants := by decide +kernel
theorem iX10_wants_X10 : ∀ w ∈ wsX100, w ∈ wsX10_wants := by decide +kernel
set_option maxHeartbeats 4000000 in
set_option maxRecDepth 100000 in
theorem kX10_wants_b41 {p : Program} {l : Launch} {e : Env} {s : State} {m : MethodId} {args : Array Value} {below : List Frame} {meth : Method} {c : Code} {G : qG} {A : Nat → Prop} {Qf : State → Prop} {R : va_W} {a : Nat → Nat} {k : qS → Prop} (hx : p.tables.exec = Jvm.exec) (hb : c.code = cX10_wants) (hml : c.maxLocals = 2) (hown : s.vm.findClass RX10 = some m.cls) (hts : ∀ w ∈ wsX10_wants, w.before args s = true) (hA : ∀ q : Nat, s.heap.size ≤ q → A q) (hKn : qKn G A s s.heap) (hret : ∀ (q : qS) (H : Heap) (locs : List Loc) (ls : Array Slot) (pc : Nat), k q → va_P G.1 vwCl (wM G a q ++ R) H → va_D A (wM G a q ++ R) → va_S A s.heap H locs → decode cX10_wants pc = .ok (.return_, 1) → W p l e rmX10_wants s m args below meth c H locs 0 0 Qf (F0 m pc ls [])) : ∀ (q : qS) (z1 : Int32) (z2 : Int32) (H : Heap) (locs : List Loc) (ls : Array Slot), wX10_wants_b41 k q z1 z2 → va_P G.1 vwCl (wM G a q ++ R) H → va_D A (wM G a q ++ R) → va_S A s.heap H locs → lv_has ls 2 [] → W p l e rmX10_wants s m args below meth c H locs 0 0 Qf (F0 m 41 ls [.int z2, .int z1, .ref (a 0)]) := by
  intro q z1 z2 H locs ls h hP hD hS hl
  unfold wX10_wants_b41 at h
  refine lv_iadd hx hb dX10_wants_41 ?_
  refine lv_topi (fun y1 ey1 => ?_)
  have h := h y1 ey1
  refine va_put (D := G.1) (ci := 10) (v := .int y1) (ty := .int) (C := RX10) (T := TX10) (N := 15) hx hb hts iX10_wants_X10 tyX10 tyX10_ok nmX10 hown hKn.k hP hD hS 0 rfl rfl 11 (by decide) (hts _ lX10_wants_f156) (fun _ h9 => h9) rfl (by decide +kernel) rfl rfl (Nat.le_of_ble_eq_true rfl) dX10_wants_42 (fun H locs hP hD hS => ?_)
  obtain ⟨q2, eq2⟩ : ∃ z : qS, z = up2 q 0 11 y1 := ⟨_, rfl⟩
  have hP : va_P G.1 vwCl (wM G a q2 ++ R) H := by rw [eq2]; exact hP
  have hD : va_D A (wM G a q2 ++ R) := by rw [eq2]; exact hD
  have h := h q2 eq2
  exact hret _ _ _ _ _ h hP hD hS dX10_wants_45
set_option maxHeartbeats 4000000 in
set_option maxRecDepth 100000 in
theorem kX10_wants_b21 {p : Program} {l : Launch} {e : Env} {s : State} {m : MethodId} {args : Array Value} {below : List Frame} {meth : Method} {c : Code} {G : qG} {A : Nat → Prop} {Qf : State → Prop} {R : va_W} {a : Nat → Nat} {k : qS → Prop} (hx : p.tables.exec = Jvm.exec) (hb : c.code = cX10_wants) (hml : c.maxLocals = 2) (hown : s.vm.findClass RX10 = some m.cls) (hts : ∀ w ∈ wsX10_wants, w.before args s = true) (hA : ∀ q : Nat, s.heap.size ≤ q → A q) (hKn : qKn G A s s.heap) (hret : ∀ (q : qS) (H : Heap) (locs : List Loc) (ls : Array Slot) (pc : Nat), k q → va_P G.1 vwCl (wM G a q ++ R) H → va_D A (wM G a q ++ R) → va_S A s.heap H locs → decode cX10_wants pc = .ok (.return_, 1) → W p l e rmX10_wants s m args below meth c H locs 0 0 Qf (F0 m pc ls [])) : ∀ (q : qS) (z1 : Int32) (H : Heap) (locs : List Loc) (ls : Array Slot), wX10_wants_b21 k q z1 → va_P G.1 vwCl (wM G a q ++ R) H → va_D A (wM G a q ++ R) → va_S A s.heap H locs → lv_has ls 2 [(0, .ref (a 0))] → W p l e rmX10_wants s m args below meth c H locs 0 0 Qf (F0 m 21 ls [.int z1, .ref (a 0)]) := by
  intro q z1 H locs ls h hP hD hS hl
  unfold wX10_wants_b21 at h
  obtain ⟨hn1, hf1, h⟩ := h
  refine va_put (D := G.1) (ci := 10) (v := .int z1) (ty := .boolean) (C := RX10) (T := TX10) (N := 15) hx hb hts iX10_wants_X10 tyX10 tyX10_ok nmX10 hown hKn.k hP hD hS 0 rfl rfl 12 (by decide) (hts _ lX10_wants_f159) (fun _ h9 => h9) rfl (by decide +kernel) hn1 hf1 (Nat.le_of_ble_eq_true rfl) dX10_wants_21 (fun H locs hP hD hS => ?_)
  obtain ⟨q3, eq3⟩ : ∃ z : qS, z = up2 q 0 12 z1 := ⟨_, rfl⟩
  have hP : va_P G.1 vwCl (wM G a q3 ++ R) H := by rw [eq3]; exact hP
  have hD : va_D A (wM G a q3 ++ R) := by rw [eq3]; exact hD
  have h := h q3 eq3
  refine lv_aload_n hx hb dX10_wants_24 rfl (lv_at hl 0 rfl) ?_
  refine lv_dup hx hb dX10_wants_25 rfl ?_
  refine va_get (D := G.1) (ci := 10) (v := .int (q3 0 11)) (C := RX10) (T := TX10) (N := 15) hx hb hts iX10_wants_X10 hown hKn.k hP 0 rfl rfl 11 (by decide) (hts _ lX10_wants_f156) (fun _ h9 => h9) rfl dX10_wants_26 ?_
  refine lv_aload_n hx hb dX10_wants_29 rfl (lv_at hl 0 rfl) ?_
  refine va_get (D := G.1) (ci := 10) (v := .int (q3 0 12)) (C := RX10) (T := TX10) (N := 15) hx hb hts iX10_wants_X10 hown hKn.k hP 0 rfl rfl 12 (by decide) (hts _ lX10_wants_f159) (fun _ h9 => h9) rfl dX10_wants_30 ?_
  refine lv_if_eq (tgt := 40) hx hb dX10_wants_33 (by decide) (fun c1 => ?_) (fun c1 => ?_)
  · have h := h.1 c1
    refine lv_iconst (v := (0 : Int32)) hx hb dX10_wants_40 (by decide) ?_
    exact kX10_wants_b41 hx hb hml hown hts hA hKn hret q3 (q3 0 11) (0 : Int32) _ _ _ h hP hD hS (lv_sub hl [] rfl)
  · have h := h.2 c1
    refine lv_iconst (v := (1 : Int32)) hx hb dX10_wants_36 (by decide) ?_
    refine lv_goto (tgt := 41) hx hb dX10_wants_37 (by decide) ?_
    exact kX10_wants_b41 hx hb hml hown hts hA hKn hret q3 (q3 0 11) (1 : Int32) _ _ _ h hP hD hS (lv_sub hl [] rfl)
set_option maxHeartbeats 4000000 in
set_option maxRecDepth 100000 in
theorem kX10_wants_b20 {p : Program} {l : Launch} {e : Env} {s : State} {m : MethodId} {args : Array Value} {below : List Frame} {meth : Method} {c : Code} {G : qG} {A : Nat → Prop} {Qf : State → Prop} {R : va_W} {a : Nat → Nat} {k : qS → Prop} (hx : p.tables.exec = Jvm.exec) (hb : c.code = cX10_wants) (hml : c.maxLocals = 2) (hown : s.vm.findClass RX10 = some m.cls) (hts : ∀ w ∈ wsX10_wants, w.before args s = true) (hA : ∀ q : Nat, s.heap.size ≤ q → A q) (hKn : qKn G A s s.heap) (hret : ∀ (q : qS) (H : Heap) (locs : List Loc) (ls : Array Slot) (pc : Nat), k q → va_P G.1 vwCl (wM G a q ++ R) H → va_D A (wM G a q ++ R) → va_S A s.heap H locs → decode cX10_wants pc = .ok (.return_, 1) → W p l e rmX10_wants s m args below meth c H locs 0 0 Qf (F0 m pc ls [])) : ∀ (q : qS) (H : Heap) (locs : List Loc) (ls : Array Slot), wX10_wants_b20 k q → va_P G.1 vwCl (wM G a q ++ R) H → va_D A (wM G a q ++ R) → va_S A s.heap H locs → lv_has ls 2 [(0, .ref (a 0))] → W p l e rmX10_wants s m args below meth c H locs 0 0 Qf (F0 m 20 ls [.ref (a 0)]) := by
  intro q H locs ls h hP hD hS hl
  unfold wX10_wants_b20 at h
  refine lv_iconst (v := (0 : Int32)) hx hb dX10_wants_20 (by decide) ?_
  exact kX10_wants_b21 hx hb hml hown hts hA hKn hret q (0 : Int32) _ _ _ h hP hD hS (lv_sub hl [0] rfl)
set_option maxHeartbeats 4000000 in
set_option maxRecDepth 100000 in
theorem mX10_wants (l : Launch) (G : qG) (k : qS → Prop) (R : va_W) (a : Nat → Nat) (q : qS) (sz : Nat) (p0 : Int32) : Met l yX10_wants wsX10_wants rmX10_wants (qPc G [.ref (a 0), .int p0] (wM G a q ++ R) sz (wX10_wants k q p0)) (qQv G (wM G a q ++ R) sz (fun (u : qS) => k u) (fun (u : qS) => wM G a u ++ R)) 0 0 (va_A (wM G a q ++ R) sz) := by
  refine Met.ofW (cc := cX10_wants) (maxL := 2) (ret := none) (by decide) rfl ?_
  intro p e s m args below meth c s₁ B hml hv
  obtain ⟨rfl, hsz, hP, hD0, hKn0, h⟩ := hv
  have hx := B.exec
  have hb := B.bytes
  have hr := B.returns
  have hts := atoms_spec (ws := wsX10_wants) B.pre
  have hown : s.vm.findClass RX10 = some m.cls := findClass_of_methodNamed B.named
  have hlocks := B.notSynchronized
  subst hsz
  have hD := hD0.self (sz := s.heap.size)
  generalize hAe : va_A (wM G a q ++ R) s.heap.size = A at hD hKn0 ⊢
  have hA : ∀ q : Nat, s.heap.size ≤ q → A q := fun q h => by rw [← hAe]; exact Or.inr h
  have hKn : qKn G A s s.heap := hKn0
  have hS : va_S A s.heap s.heap [] := va_S.rf
  have hret : ∀ (q' : qS) (H : Heap) (locs : List Loc) (ls : Array Slot) (pc : Nat), k q' → va_P G.1 vwCl (wM G a q' ++ R) H → va_D A (wM G a q' ++ R) → va_S A s.heap H locs → decode cX10_wants pc = .ok (.return_, 1) → W p l e rmX10_wants s m #[.ref (a 0), .int p0] below meth c H locs 0 0 (MQ below (qQv G (wM G a q ++ R) s.heap.size (fun (u : qS) => k u) (fun (u : qS) => wM G a u ++ R)) #[.ref (a 0), .int p0] s 0 0 A) (F0 m pc ls []) := fun q' H locs ls pc hk hP hD hS hd => W.vret hx hb hr (fun t ht hW => q_rv (u := (q' : qS)) hAe hk hP hD hS ht) hS.2.2 hd
  have hl := lv_entry ([.ref (a 0), .int p0]) (n := 2) (Nat.le_of_ble_eq_true rfl)
  rw [lg_entry_eq]
  generalize (lg_sl ([.ref (a 0), .int p0]) ++ List.replicate (2 - (lg_sl ([.ref (a 0), .int p0])).length) Slot.unset).toArray = ls at hl ⊢
  have hl : lv_has ls 2 [(0, .ref (a 0)), (1, .int p0)] := hl
  unfold wX10_wants at h
  show W p l e rmX10_wants s m #[.ref (a 0), .int p0] below meth c s.heap [] 0 0 _ _
  refine lv_aload_n hx hb dX10_wants_0 rfl (lv_at hl 0 rfl) ?_
  refine lv_aload_n hx hb dX10_wants_1 rfl (lv_at hl 0 rfl) ?_
  refine va_get (D := G.1) (ci := 10) (v := .int (q 0 12)) (C := RX10) (T := TX10) (N := 15) hx hb hts iX10_wants_X10 hown hKn.k hP 0 rfl rfl 12 (by decide) (hts _ lX10_wants_f159) (fun _ h9 => h9) rfl dX10_wants_2 ?_
  refine lv_if_eq (tgt := 20) hx hb dX10_wants_5 (by decide) (fun c1 => ?_) (fun c1 => ?_)
  · have h := h.1 c1
    exact kX10_wants_b20 hx hb hml hown hts hA hKn hret q _ _ _ h hP hD hS (lv_sub hl [0] rfl)
  · have h := h.2 c1
    refine lv_aload_n hx hb dX10_wants_8 rfl (lv_at hl 0 rfl) ?_
    refine qc_vi (As := []) (rest := [.ref (a 0)]) ⟨hx, hb, hml, hown, hts⟩ (mX10_sign l G _ _ a q _ ) (cwV 0 hts gX10_wants_X10_sign rfl rfl rfl (by decide +kernel) ⟨Nat.le_of_ble_eq_true rfl, Nat.le_of_ble_eq_true rfl⟩) hP hD hS hA hKn 0 10 rfl rfl rfl h rfl hl.1 rfl (Nat.le_of_ble_eq_true rfl) dX10_wants_9 ⟨Nat.zero_le _, Nat.zero_le _⟩ (fun r4 q5 H locs h hP hD hS => ?_)
    have hP : va_P G.1 vwCl (wM G a q5 ++ R) H := hP
    have hD : va_D A (wM G a q5 ++ R) := hD
    refine lv_iload_n hx hb dX10_wants_12 rfl (lv_at hl 1 rfl) ?_
    refine lv_icmp_ne (tgt := 20) hx hb dX10_wants_13 (by decide) (fun c1 => ?_) (fun c1 => ?_)
    · have h := h.1 c1
      exact kX10_wants_b20 hx hb hml hown hts hA hKn hret q5 _ _ _ h hP hD hS (lv_sub hl [0] rfl)
    · have h := h.2 c1
      refine lv_iconst (v := (1 : Int32)) hx hb dX10_wants_16 (by decide) ?_
      refine lv_goto (tgt := 21) hx hb dX10_wants_17 (by decide) ?_
      exact kX10_wants_b21 hx hb hml hown hts hA hKn hret q5 (1 : Int32) _ _ _ h hP hD hS (lv_sub hl [0] rfl)
abbrev rmX10_digit : Room := { frames := 1, cells := 0, slots := 0, locals := 22 }
theorem lX10_digit_f156 : Cond.fieldLink RX10 156 "QuarryBlendsModel" "at" "I" ∈ wsX10_digit := by decide +kernel
theorem lX10_digit_f159 : Cond.fieldLink RX10 159 "QuarryBlendsModel" "isWell" "Z" ∈ wsX10_digit := by decide +kernel
theorem iX10_digit_X10 : ∀ w ∈ wsX100, w ∈ wsX10_digit := by decide +kernel
set_option maxHeartbeats 4000000 in
set_option maxRecDepth 100000 in
theorem kX10_digit_b55 {p : Program} {l : Launch} {e : Env} {s : State} {m : MethodId} {args : Array Value} {below : List Frame} {meth : Method} {c : Code} {G : qG} {A : Nat → Prop} {Qf : State → Prop} {R : va_W} {a : Nat → Nat} {k : Int32 → qS → Prop} (hx : p.tables.exec = Jvm.exec) (hb : c.code = cX10_digit) (hml : c.maxLocals = 2) (hown : s.vm.findClass RX10 = some m.cls) (hts : ∀ w ∈ wsX10_digit, w.before args s = true) (hA : ∀ q : Nat, s.heap.size ≤ q → A q) (hKn : qKn G A s s.heap) (hret : ∀ (r : Int32) (q : qS) (H : Heap) (locs : List Loc) (ls : Array Slot) (pc : Nat), k r q → va_P G.1 vwCl (wM G a q ++ R) H → va_D A (wM G a q ++ R) → va_S A s.heap H locs → decode cX10_digit pc = .ok (.ireturn, 1) → W p l e rmX10_digit s m args below meth c H locs 0 0 Qf (F0 m pc ls [.int r])) : ∀ (q : qS) (x1 : Int32) (z1 : Int32) (z2 : Int32) (H : Heap) (locs : List Loc) (ls : Array Slot), wX10_digit_b55 k q x1 z1 z2 → va_P G.1 vwCl (wM G a q ++ R) H → va_D A (wM G a q ++ R) → va_S A s.heap H locs → lv_has ls 2 [(1, .int x1)] → W p l e rmX10_digit s m args below meth c H locs 0 0 Qf (F0 m 55 ls [.int z2, .int z1, .ref (a 0)]) := by
  intro q x1 z1 z2 H locs ls h hP hD hS hl
  unfold wX10_digit_b55 at h
  refine lv_iadd hx hb dX10_digit_55 ?_
  refine lv_topi (fun y1 ey1 => ?_)
  have h := h y1 ey1
  refine va_put (D := G.1) (ci := 10) (v := .int y1) (ty := .int) (C := RX10) (T := TX10) (N := 15) hx hb hts iX10_digit_X10 tyX10 tyX10_ok nmX10 hown hKn.k hP hD hS 0 rfl rfl 11 (by decide) (hts _ lX10_digit_f156) (fun _ h9 => h9) rfl (by decide +kernel) rfl rfl (Nat.le_of_ble_eq_true rfl) dX10_digit_56 (fun H locs hP hD hS => ?_)
  obtain ⟨q2, eq2⟩ : ∃ z : qS, z = up2 q 0 11 y1 := ⟨_, rfl⟩
  have hP : va_P G.1 vwCl (wM G a q2 ++ R) H := by rw [eq2]; exact hP
  have hD : va_D A (wM G a q2 ++ R) := by rw [eq2]; exact hD
  have h := h q2 eq2
  refine lv_iload_n hx hb dX10_digit_59 rfl (lv_at hl 0 rfl) ?_
  exact hret _ _ _ _ _ _ h hP hD hS dX10_digit_60
set_option maxHeartbeats 4000000 in
set_option maxRecDepth 100000 in
theorem kX10_digit_b27 {p : Program} {l : Launch} {e : Env} {s : State} {m : MethodId} {args : Array Value} {below : List Frame} {meth : Method} {c : Code} {G : qG} {A : Nat → Prop} {Qf : State → Prop} {R : va_W} {a : Nat → Nat} {k : Int32 → qS → Prop} (hx : p.tables.exec = Jvm.exec) (hb : c.code = cX10_digit) (hml : c.maxLocals = 2) (hown : s.vm.findClass RX10 = some m.cls) (hts : ∀ w ∈ wsX10_digit, w.before args s = true) (hA : ∀ q : Nat, s.heap.size ≤ q → A q) (hKn : qKn G A s s.heap) (hret : ∀ (r : Int32) (q : qS) (H : Heap) (locs : List Loc) (ls : Array Slot) (pc : Nat), k r q → va_P G.1 vwCl (wM G a q ++ R) H → va_D A (wM G a q ++ R) → va_S A s.heap H locs → decode cX10_digit pc = .ok (.ireturn, 1) → W p l e rmX10_digit s m args below meth c H locs 0 0 Qf (F0 m pc ls [.int r])) : ∀ (q : qS) (z1 : Int32) (H : Heap) (locs : List Loc) (ls : Array Slot), wX10_digit_b27 k q z1 → va_P G.1 vwCl (wM G a q ++ R) H → va_D A (wM G a q ++ R) → va_S A s.heap H locs → lv_has ls 2 [(0, .ref (a 0))] → W p l e rmX10_digit s m args below meth c H locs 0 0 Qf (F0 m 27 ls [.int z1, .ref (a 0)]) := by
  intro q z1 H locs ls h hP hD hS hl
  unfold wX10_digit_b27 at h
  obtain ⟨hn1, hf1, h⟩ := h
  refine va_put (D := G.1) (ci := 10) (v := .int z1) (ty := .boolean) (C := RX10) (T := TX10) (N := 15) hx hb hts iX10_digit_X10 tyX10 tyX10_ok nmX10 hown hKn.k hP hD hS 0 rfl rfl 12 (by decide) (hts _ lX10_digit_f159) (fun _ h9 => h9) rfl (by decide +kernel) hn1 hf1 (Nat.le_of_ble_eq_true rfl) dX10_digit_27 (fun H locs hP hD hS => ?_)
  obtain ⟨q3, eq3⟩ : ∃ z : qS, z = up2 q 0 12 z1 := ⟨_, rfl⟩
  have hP : va_P G.1 vwCl (wM G a q3 ++ R) H := by rw [eq3]; exact hP
  have hD : va_D A (wM G a q3 ++ R) := by rw [eq3]; exact hD
  have h := h q3 eq3
  refine lv_aload_n hx hb dX10_digit_30 rfl (lv_at hl 0 rfl) ?_
  refine qc_vi (As := []) (rest := []) ⟨hx, hb, hml, hown, hts⟩ (mX10_sign l G _ _ a q3 _ ) (cwV 0 hts gX10_digit_X10_sign rfl rfl rfl (by decide +kernel) ⟨Nat.le_of_ble_eq_true rfl, Nat.le_of_ble_eq_true rfl⟩) hP hD hS hA hKn 0 10 rfl rfl rfl h rfl hl.1 rfl (Nat.le_of_ble_eq_true rfl) dX10_digit_31 ⟨Nat.zero_le _, Nat.zero_le _⟩ (fun r4 q5 H locs h hP hD hS => ?_)
  have hP : va_P G.1 vwCl (wM G a q5 ++ R) H := hP
  have hD : va_D A (wM G a q5 ++ R) := hD
  refine lv_bipush (v := (48 : Int32)) hx hb dX10_digit_34 (by decide) ?_
  refine lv_isub hx hb dX10_digit_36 ?_
  refine lv_topi (fun y6 ey6 => ?_)
  have h := h y6 ey6
  refine lv_istore_n (lv' := [(1, .int y6), (0, .ref (a 0))]) hx hb dX10_digit_37 rfl hl (by decide) rfl (fun ls hl => ?_)
  refine lv_aload_n hx hb dX10_digit_38 rfl (lv_at hl 1 rfl) ?_
  refine lv_dup hx hb dX10_digit_39 rfl ?_
  refine va_get (D := G.1) (ci := 10) (v := .int (q5 0 11)) (C := RX10) (T := TX10) (N := 15) hx hb hts iX10_digit_X10 hown hKn.k hP 0 rfl rfl 11 (by decide) (hts _ lX10_digit_f156) (fun _ h9 => h9) rfl dX10_digit_40 ?_
  refine lv_aload_n hx hb dX10_digit_43 rfl (lv_at hl 1 rfl) ?_
  refine va_get (D := G.1) (ci := 10) (v := .int (q5 0 12)) (C := RX10) (T := TX10) (N := 15) hx hb hts iX10_digit_X10 hown hKn.k hP 0 rfl rfl 12 (by decide) (hts _ lX10_digit_f159) (fun _ h9 => h9) rfl dX10_digit_44 ?_
  refine lv_if_eq (tgt := 54) hx hb dX10_digit_47 (by decide) (fun c1 => ?_) (fun c1 => ?_)
  · have h := h.1 c1
    refine lv_iconst (v := (0 : Int32)) hx hb dX10_digit_54 (by decide) ?_
    exact kX10_digit_b55 hx hb hml hown hts hA hKn hret q5 y6 (q5 0 11) (0 : Int32) _ _ _ h hP hD hS (lv_sub hl [0] rfl)
  · have h := h.2 c1
    refine lv_iconst (v := (1 : Int32)) hx hb dX10_digit_50 (by decide) ?_
    refine lv_goto (tgt := 55) hx hb dX10_digit_51 (by decide) ?_
    exact kX10_digit_b55 hx hb hml hown hts hA hKn hret q5 y6 (q5 0 11) (1 : Int32) _ _ _ h hP hD hS (lv_sub hl [0] rfl)
set_option maxHeartbeats 4000000 in
set_option maxRecDepth 100000 in
theorem kX10_digit_b26 {p : Program} {l : Launch} {e : Env} {s : State} {m : MethodId} {args : Array Value} {below : List Frame} {meth : Method} {c : Code} {G : qG} {A : Nat → Prop} {Qf : State → Prop} {R : va_W} {a : Nat → Nat} {k : Int32 → qS → Prop} (hx : p.tables.exec = Jvm.exec) (hb : c.code = cX10_digit) (hml : c.maxLocals = 2) (hown : s.vm.findClass RX10 = some m.cls) (hts : ∀ w ∈ wsX10_digit, w.before args s = true) (hA : ∀ q : Nat, s.heap.size ≤ q → A q) (hKn : qKn G A s s.heap) (hret : ∀ (r : Int32) (q : qS) (H : Heap) (locs : List Loc) (ls : Array Slot) (pc : Nat), k r q → va_P G.1 vwCl (wM G a q ++ R) H → va_D A (wM G a q ++ R) → va_S A s.heap H locs → decode cX10_digit pc = .ok (.ireturn, 1) → W p l e rmX10_digit s m args below meth c H locs 0 0 Qf (F0 m pc ls [.int r])) : ∀ (q : qS) (H : Heap) (locs : List Loc) (ls : Array Slot), wX10_digit_b26 k q → va_P G.1 vwCl (wM G a q ++ R) H → va_D A (wM G a q ++ R) → va_S A s.heap H locs → lv_has ls 2 [(0, .ref (a 0))] → W p l e rmX10_digit s m args below meth c H locs 0 0 Qf (F0 m 26 ls [.ref (a 0)]) := by
  intro q H locs ls h hP hD hS hl
  unfold wX10_digit_b26 at h
  refine lv_iconst (v := (0 : Int32)) hx hb dX10_digit_26 (by decide) ?_
  exact kX10_digit_b27 hx hb hml hown hts hA hKn hret q (0 : Int32) _ _ _ h hP hD hS (lv_sub hl [0] rfl)
set_option maxHeartbeats 4000000 in
set_option maxRecDepth 100000 in
theorem mX10_digit (l : Launch) (G : qG) (k : Int32 → qS → Prop) (R : va_W) (a : Nat → Nat) (q : qS) (sz : Nat) : Met l yX10_digit wsX10_digit rmX10_digit (qPc G [.ref (a 0)] (wM G a q ++ R) sz (wX10_digit k q)) (qQi G (wM G a q ++ R) sz (fun (r : Int32) (u : qS) => k r u) (fun (u : qS) => wM G a u ++ R)) 0 0 (va_A (wM G a q ++ R) sz) := by
  refine Met.ofW (cc := cX10_digit) (maxL := 2) (ret := (some .int)) (by decide) rfl ?_
  intro p e s m args below meth c s₁ B hml hv
  obtain ⟨rfl, hsz, hP, hD0, hKn0, h⟩ := hv
  have hx := B.exec
  have hb := B.bytes
  have hr := B.returns
  have hts := atoms_spec (ws := wsX10_digit) B.pre
  have hown : s.vm.findClass RX10 = some m.cls := findClass_of_methodNamed B.named
  have hlocks := B.notSynchronized
  subst hsz
  have hD := hD0.self (sz := s.heap.size)
  generalize hAe : va_A (wM G a q ++ R) s.heap.size = A at hD hKn0 ⊢
  have hA : ∀ q : Nat, s.heap.size ≤ q → A q := fun q h => by rw [← hAe]; exact Or.inr h
  have hKn : qKn G A s s.heap := hKn0
  have hS : va_S A s.heap s.heap [] := va_S.rf
  have hret : ∀ (r : Int32) (q' : qS) (H : Heap) (locs : List Loc) (ls : Array Slot) (pc : Nat), k r q' → va_P G.1 vwCl (wM G a q' ++ R) H → va_D A (wM G a q' ++ R) → va_S A s.heap H locs → decode cX10_digit pc = .ok (.ireturn, 1) → W p l e rmX10_digit s m #[.ref (a 0)] below meth c H locs 0 0 (MQ below (qQi G (wM G a q ++ R) s.heap.size (fun (r : Int32) (u : qS) => k r u) (fun (u : qS) => wM G a u ++ R)) #[.ref (a 0)] s 0 0 A) (F0 m pc ls [.int r]) := fun r q' H locs ls pc hk hP hD hS hd => W.iret hx hb hr (fun t ht hW => q_ri (u := (q' : qS)) hAe hk hP hD hS ht) hS.2.2 hd
  have hl := lv_entry ([.ref (a 0)]) (n := 2) (Nat.le_of_ble_eq_true rfl)
  rw [lg_entry_eq]
  generalize (lg_sl ([.ref (a 0)]) ++ List.replicate (2 - (lg_sl ([.ref (a 0)])).length) Slot.unset).toArray = ls at hl ⊢
  have hl : lv_has ls 2 [(0, .ref (a 0))] := hl
  unfold wX10_digit at h
  show W p l e rmX10_digit s m #[.ref (a 0)] below meth c s.heap [] 0 0 _ _
  refine lv_aload_n hx hb dX10_digit_0 rfl (lv_at hl 0 rfl) ?_
  refine lv_aload_n hx hb dX10_digit_1 rfl (lv_at hl 0 rfl) ?_
  refine va_get (D := G.1) (ci := 10) (v := .int (q 0 12)) (C := RX10) (T := TX10) (N := 15) hx hb hts iX10_digit_X10 hown hKn.k hP 0 rfl rfl 12 (by decide) (hts _ lX10_digit_f159) (fun _ h9 => h9) rfl dX10_digit_2 ?_
  refine lv_if_eq (tgt := 26) hx hb dX10_digit_5 (by decide) (fun c1 => ?_) (fun c1 => ?_)
  · have h := h.1 c1
    exact kX10_digit_b26 hx hb hml hown hts hA hKn hret q _ _ _ h hP hD hS (lv_sub hl [0] rfl)
  · have h := h.2 c1
    refine lv_aload_n hx hb dX10_digit_8 rfl (lv_at hl 0 rfl) ?_
    refine qc_vi (As := []) (rest := [.ref (a 0)]) ⟨hx, hb, hml, hown, hts⟩ (mX10_sign l G _ _ a q _ ) (cwV 0 hts gX10_digit_X10_sign rfl rfl rfl (by decide +kernel) ⟨Nat.le_of_ble_eq_true rfl, Nat.le_of_ble_eq_true rfl⟩) hP hD hS hA hKn 0 10 rfl rfl rfl h rfl hl.1 rfl (Nat.le_of_ble_eq_true rfl) dX10_digit_9 ⟨Nat.zero_le _, Nat.zero_le _⟩ (fun r7 q8 H locs h hP hD hS => ?_)
    have hP : va_P G.1 vwCl (wM G a q8 ++ R) H := hP
    have hD : va_D A (wM G a q8 ++ R) := hD
    refine lv_bipush (v := (49 : Int32)) hx hb dX10_digit_12 (by decide) ?_
    refine lv_bipush (v := (57 : Int32)) hx hb dX10_digit_14 (by decide) ?_
    refine qc_si (As := [.int r7, .int (49 : Int32), .int (57 : Int32)]) (rest := [.ref (a 0)]) ⟨hx, hb, hml, hown, hts⟩ (mX10_in l G _ _ _ r7 (49 : Int32) (57 : Int32)) (cwS 3 hts gX10_digit_X10_in rfl rfl rfl (by decide +kernel) ⟨Nat.le_of_ble_eq_true rfl, Nat.le_of_ble_eq_true rfl⟩) hP hD hS hA hKn h rfl hl.1 rfl (Nat.le_of_ble_eq_true rfl) dX10_digit_16 ⟨Nat.zero_le _, Nat.zero_le _⟩ (fun r9 _ H locs h hP hD hS => ?_)
    have hP : va_P G.1 vwCl (wM G a q8 ++ R) H := hP
    have hD : va_D A (wM G a q8 ++ R) := hD
    refine lv_if_eq (tgt := 26) hx hb dX10_digit_19 (by decide) (fun c1 => ?_) (fun c1 => ?_)
    · have h := h.1 c1
      exact kX10_digit_b26 hx hb hml hown hts hA hKn hret q8 _ _ _ h hP hD hS (lv_sub hl [0] rfl)
    · have h := h.2 c1
      refine lv_iconst (v := (1 : Int32)) hx hb dX10_digit_22 (by decide) ?_
      refine lv_goto (tgt := 27) hx hb dX10_digit_23 (by decide) ?_
      exact kX10_digit_b27 hx hb hml hown hts hA hKn hret q8 (1 : Int32) _ _ _ h hP hD hS (lv_sub hl [0] rfl)
abbrev rmX10_number : Room := { frames := 1, cells := 0, slots := 0, locals := 22 }
theorem lX10_number_f156 : Cond.fieldLink RX10 156 "QuarryBlendsModel" "at" "I" ∈ wsX10_number := by decide +kernel
theorem lX10_number_f159 : Cond.fieldLink RX10 159 "QuarryBlendsModel" "isWell" "Z" ∈ wsX10_number := by decide +kernel
theorem iX10_number_X10 : ∀ w ∈ wsX100, w ∈ wsX10_number := by decide +kernel
set_option maxHeartbeats 4000000 in
set_option maxRecDepth 100000 in
theorem kX10_number_b120 {p : Program} {l : Launch} {e : Env} {s : State} {m : MethodId} {args : Array Value} {below : List Frame} {meth : Method} {c : Code} {G : qG} {A : Nat → Prop} {Qf : State → Prop} {R : va_W} {a : Nat → Nat} {k : Int32 → qS → Prop} (hx : p.tables.exec = Jvm.exec) (hb : c.code = cX10_number) (hml : c.maxLocals = 3) (hown : s.vm.findClass RX10 = some m.cls) (hts : ∀ w ∈ wsX10_number, w.before args s = true) (hA : ∀ q : Nat, s.heap.size ≤ q → A q) (hKn : qKn G A s s.heap) (hret : ∀ (r : Int32) (q : qS) (H : Heap) (locs : List Loc) (ls : Array Slot) (pc : Nat), k r q → va_P G.1 vwCl (wM G a q ++ R) H → va_D A (wM G a q ++ R) → va_S A s.heap H locs → decode cX10_number pc = .ok (.ireturn, 1) → W p l e rmX10_number s m args below meth c H locs 0 0 Qf (F0 m pc ls [.int r])) : ∀ (q : qS) (x1 : Int32) (H : Heap) (locs : List Loc) (ls : Array Slot), wX10_number_b120 k q x1 → va_P G.1 vwCl (wM G a q ++ R) H → va_D A (wM G a q ++ R) → va_S A s.heap H locs → lv_has ls 3 [(1, .int x1)] → W p l e rmX10_number s m args below meth c H locs 0 0 Qf (F0 m 120 ls []) := by
  intro q x1 H locs ls h hP hD hS hl
  unfold wX10_number_b120 at h
  refine lv_iload_n hx hb dX10_number_120 rfl (lv_at hl 0 rfl) ?_
  exact hret _ _ _ _ _ _ h hP hD hS dX10_number_121
set_option maxHeartbeats 4000000 in
set_option maxRecDepth 100000 in
theorem kX10_number_b61 {p : Program} {l : Launch} {e : Env} {s : State} {m : MethodId} {args : Array Value} {below : List Frame} {meth : Method} {c : Code} {G : qG} {A : Nat → Prop} {Qf : State → Prop} {R : va_W} {a : Nat → Nat} {k : Int32 → qS → Prop} (hx : p.tables.exec = Jvm.exec) (hb : c.code = cX10_number) (hml : c.maxLocals = 3) (hown : s.vm.findClass RX10 = some m.cls) (hts : ∀ w ∈ wsX10_number, w.before args s = true) (hA : ∀ q : Nat, s.heap.size ≤ q → A q) (hKn : qKn G A s s.heap) (hret : ∀ (r : Int32) (q : qS) (H : Heap) (locs : List Loc) (ls : Array Slot) (pc : Nat), k r q → va_P G.1 vwCl (wM G a q ++ R) H → va_D A (wM G a q ++ R) → va_S A s.heap H locs → decode cX10_number pc = .ok (.ireturn, 1) → W p l e rmX10_number s m args below meth c H locs 0 0 Qf (F0 m pc ls [.int r])) : ∀ (n : Nat) (q : qS) (x1 : Int32) (x2 : Int32) (H : Heap) (locs : List Loc) (ls : Array Slot), wX10_number_b61 k n q x1 x2 → va_P G.1 vwCl (wM G a q ++ R) H → va_D A (wM G a q ++ R) → va_S A s.heap H locs → lv_has ls 3 [(0, .ref (a 0)), (1, .int x1), (2, .int x2)] → W p l e rmX10_number s m args below meth c H locs 0 0 Qf (F0 m 61 ls []) := by
  intro n
  induction n with
  | zero => intros; rename_i h _ _ _ _; exact h.elim
  | succ n ih =>
    intro q x1 x2 H locs ls h hP hD hS hl
    unfold wX10_number_b61 at h
    refine lv_iload_n hx hb dX10_number_61 rfl (lv_at hl 2 rfl) ?_
    refine lv_iconst (v := (4 : Int32)) hx hb dX10_number_62 (by decide) ?_
    refine lv_icmp_ge (tgt := 120) hx hb dX10_number_63 (by decide) (fun c1 => ?_) (fun c1 => ?_)
    · have h := h.1 c1
      exact kX10_number_b120 hx hb hml hown hts hA hKn hret q x1 _ _ _ h hP hD hS (lv_sub hl [1] rfl)
    · have h := h.2 c1
      refine lv_aload_n hx hb dX10_number_66 rfl (lv_at hl 0 rfl) ?_
      refine va_get (D := G.1) (ci := 10) (v := .int (q 0 12)) (C := RX10) (T := TX10) (N := 15) hx hb hts iX10_number_X10 hown hKn.k hP 0 rfl rfl 12 (by decide) (hts _ lX10_number_f159) (fun _ h9 => h9) rfl dX10_number_67 ?_
      refine lv_if_eq (tgt := 120) hx hb dX10_number_70 (by decide) (fun c1 => ?_) (fun c1 => ?_)
      · have h := h.1 c1
        exact kX10_number_b120 hx hb hml hown hts hA hKn hret q x1 _ _ _ h hP hD hS (lv_sub hl [1] rfl)
      · have h := h.2 c1
        refine lv_iload_n hx hb dX10_number_73 rfl (lv_at hl 1 rfl) ?_
        refine lv_if_le (tgt := 120) hx hb dX10_number_74 (by decide) (fun c1 => ?_) (fun c1 => ?_)
        · have h := h.1 c1
          exact kX10_number_b120 hx hb hml hown hts hA hKn hret q x1 _ _ _ h hP hD hS (lv_sub hl [1] rfl)
        · have h := h.2 c1
          refine lv_aload_n hx hb dX10_number_77 rfl (lv_at hl 0 rfl) ?_
          refine qc_vi (As := []) (rest := []) ⟨hx, hb, hml, hown, hts⟩ (mX10_sign l G _ _ a q _ ) (cwV 0 hts gX10_number_X10_sign rfl rfl rfl (by decide +kernel) ⟨Nat.le_of_ble_eq_true rfl, Nat.le_of_ble_eq_true rfl⟩) hP hD hS hA hKn 0 10 rfl rfl rfl h rfl hl.1 rfl (Nat.le_of_ble_eq_true rfl) dX10_number_78 ⟨Nat.zero_le _, Nat.zero_le _⟩ (fun r1 q2 H locs h hP hD hS => ?_)
          have hP : va_P G.1 vwCl (wM G a q2 ++ R) H := hP
          have hD : va_D A (wM G a q2 ++ R) := hD
          refine lv_bipush (v := (48 : Int32)) hx hb dX10_number_81 (by decide) ?_
          refine lv_bipush (v := (57 : Int32)) hx hb dX10_number_83 (by decide) ?_
          refine qc_si (As := [.int r1, .int (48 : Int32), .int (57 : Int32)]) (rest := []) ⟨hx, hb, hml, hown, hts⟩ (mX10_in l G _ _ _ r1 (48 : Int32) (57 : Int32)) (cwS 3 hts gX10_number_X10_in rfl rfl rfl (by decide +kernel) ⟨Nat.le_of_ble_eq_true rfl, Nat.le_of_ble_eq_true rfl⟩) hP hD hS hA hKn h rfl hl.1 rfl (Nat.le_of_ble_eq_true rfl) dX10_number_85 ⟨Nat.zero_le _, Nat.zero_le _⟩ (fun r3 _ H locs h hP hD hS => ?_)
          have hP : va_P G.1 vwCl (wM G a q2 ++ R) H := hP
          have hD : va_D A (wM G a q2 ++ R) := hD
          refine lv_if_eq (tgt := 120) hx hb dX10_number_88 (by decide) (fun c1 => ?_) (fun c1 => ?_)
          · have h := h.1 c1
            exact kX10_number_b120 hx hb hml hown hts hA hKn hret q2 x1 _ _ _ h hP hD hS (lv_sub hl [1] rfl)
          · have h := h.2 c1
            refine lv_bipush (v := (10 : Int32)) hx hb dX10_number_91 (by decide) ?_
            refine lv_iload_n hx hb dX10_number_93 rfl (lv_at hl 1 rfl) ?_
            refine lv_imul hx hb dX10_number_94 ?_
            refine lv_aload_n hx hb dX10_number_95 rfl (lv_at hl 0 rfl) ?_
            refine qc_vi (As := []) (rest := [.int ((10 : Int32) * x1)]) ⟨hx, hb, hml, hown, hts⟩ (mX10_sign l G _ _ a q2 _ ) (cwV 0 hts gX10_number_X10_sign rfl rfl rfl (by decide +kernel) ⟨Nat.le_of_ble_eq_true rfl, Nat.le_of_ble_eq_true rfl⟩) hP hD hS hA hKn 0 10 rfl rfl rfl h rfl hl.1 rfl (Nat.le_of_ble_eq_true rfl) dX10_number_96 ⟨Nat.zero_le _, Nat.zero_le _⟩ (fun r4 q5 H locs h hP hD hS => ?_)
            have hP : va_P G.1 vwCl (wM G a q5 ++ R) H := hP
            have hD : va_D A (wM G a q5 ++ R) := hD
            refine lv_iadd hx hb dX10_number_99 ?_
            refine lv_bipush (v := (48 : Int32)) hx hb dX10_number_100 (by decide) ?_
            refine lv_isub hx hb dX10_number_102 ?_
            refine lv_topi (fun y6 ey6 => ?_)
            have h := h y6 ey6
            refine lv_istore_n (lv' := [(1, .int y6), (0, .ref (a 0)), (2, .int x2)]) hx hb dX10_number_103 rfl hl (by decide) rfl (fun ls hl => ?_)
            refine lv_aload_n hx hb dX10_number_104 rfl (lv_at hl 1 rfl) ?_
            refine lv_dup hx hb dX10_number_105 rfl ?_
            refine va_get (D := G.1) (ci := 10) (v := .int (q5 0 11)) (C := RX10) (T := TX10) (N := 15) hx hb hts iX10_number_X10 hown hKn.k hP 0 rfl rfl 11 (by decide) (hts _ lX10_number_f156) (fun _ h9 => h9) rfl dX10_number_106 ?_
            refine lv_iconst (v := (1 : Int32)) hx hb dX10_number_109 (by decide) ?_
            refine lv_iadd hx hb dX10_number_110 ?_
            refine lv_topi (fun y7 ey7 => ?_)
            have h := h y7 ey7
            refine va_put (D := G.1) (ci := 10) (v := .int y7) (ty := .int) (C := RX10) (T := TX10) (N := 15) hx hb hts iX10_number_X10 tyX10 tyX10_ok nmX10 hown hKn.k hP hD hS 0 rfl rfl 11 (by decide) (hts _ lX10_number_f156) (fun _ h9 => h9) rfl (by decide +kernel) rfl rfl (Nat.le_of_ble_eq_true rfl) dX10_number_111 (fun H locs hP hD hS => ?_)
            obtain ⟨q8, eq8⟩ : ∃ z : qS, z = up2 q5 0 11 y7 := ⟨_, rfl⟩
            have hP : va_P G.1 vwCl (wM G a q8 ++ R) H := by rw [eq8]; exact hP
            have hD : va_D A (wM G a q8 ++ R) := by rw [eq8]; exact hD
            have h := h q8 eq8
            obtain ⟨y9, ey9⟩ : ∃ z : Int32, z = x2 + (1 : Int32) := ⟨_, rfl⟩
            have h := h y9 ey9
            refine lv_iinc (v := y9) (lv' := [(2, .int y9), (1, .int y6), (0, .ref (a 0))]) hx hb dX10_number_114 hl (k := 2) rfl (by rw [ey9]; rfl) (by decide) rfl (fun ls hl => ?_)
            refine lv_goto (tgt := 61) hx hb dX10_number_117 (by decide) ?_
            exact ih q8 y6 y9 _ _ _ h hP hD hS (lv_sub hl [2, 1, 0] rfl)
set_option maxHeartbeats 4000000 in
set_option maxRecDepth 100000 in
theorem kX10_number_b55 {p : Program} {l : Launch} {e : Env} {s : State} {m : MethodId} {args : Array Value} {below : List Frame} {meth : Method} {c : Code} {G : qG} {A : Nat → Prop} {Qf : State → Prop} {R : va_W} {a : Nat → Nat} {k : Int32 → qS → Prop} (hx : p.tables.exec = Jvm.exec) (hb : c.code = cX10_number) (hml : c.maxLocals = 3) (hown : s.vm.findClass RX10 = some m.cls) (hts : ∀ w ∈ wsX10_number, w.before args s = true) (hA : ∀ q : Nat, s.heap.size ≤ q → A q) (hKn : qKn G A s s.heap) (hret : ∀ (r : Int32) (q : qS) (H : Heap) (locs : List Loc) (ls : Array Slot) (pc : Nat), k r q → va_P G.1 vwCl (wM G a q ++ R) H → va_D A (wM G a q ++ R) → va_S A s.heap H locs → decode cX10_number pc = .ok (.ireturn, 1) → W p l e rmX10_number s m args below meth c H locs 0 0 Qf (F0 m pc ls [.int r])) : ∀ (q : qS) (x1 : Int32) (z1 : Int32) (z2 : Int32) (H : Heap) (locs : List Loc) (ls : Array Slot), wX10_number_b55 k q x1 z1 z2 → va_P G.1 vwCl (wM G a q ++ R) H → va_D A (wM G a q ++ R) → va_S A s.heap H locs → lv_has ls 3 [(0, .ref (a 0)), (1, .int x1)] → W p l e rmX10_number s m args below meth c H locs 0 0 Qf (F0 m 55 ls [.int z2, .int z1, .ref (a 0)]) := by
  intro q x1 z1 z2 H locs ls h hP hD hS hl
  unfold wX10_number_b55 at h
  refine lv_iadd hx hb dX10_number_55 ?_
  refine lv_topi (fun y10 ey10 => ?_)
  have h := h y10 ey10
  refine va_put (D := G.1) (ci := 10) (v := .int y10) (ty := .int) (C := RX10) (T := TX10) (N := 15) hx hb hts iX10_number_X10 tyX10 tyX10_ok nmX10 hown hKn.k hP hD hS 0 rfl rfl 11 (by decide) (hts _ lX10_number_f156) (fun _ h9 => h9) rfl (by decide +kernel) rfl rfl (Nat.le_of_ble_eq_true rfl) dX10_number_56 (fun H locs hP hD hS => ?_)
  obtain ⟨q11, eq11⟩ : ∃ z : qS, z = up2 q 0 11 y10 := ⟨_, rfl⟩
  have hP : va_P G.1 vwCl (wM G a q11 ++ R) H := by rw [eq11]; exact hP
  have hD : va_D A (wM G a q11 ++ R) := by rw [eq11]; exact hD
  have h := h q11 eq11
  refine lv_iconst (v := (1 : Int32)) hx hb dX10_number_59 (by decide) ?_
  refine lv_istore_n (lv' := [(2, .int (1 : Int32)), (0, .ref (a 0)), (1, .int x1)]) hx hb dX10_number_60 rfl hl (by decide) rfl (fun ls hl => ?_)
  obtain ⟨n12, h⟩ := h
  exact kX10_number_b61 hx hb hml hown hts hA hKn hret n12 q11 x1 (1 : Int32) _ _ _ h hP hD hS (lv_sub hl [1, 2, 0] rfl)
set_option maxHeartbeats 4000000 in
set_option maxRecDepth 100000 in
theorem kX10_number_b27 {p : Program} {l : Launch} {e : Env} {s : State} {m : MethodId} {args : Array Value} {below : List Frame} {meth : Method} {c : Code} {G : qG} {A : Nat → Prop} {Qf : State → Prop} {R : va_W} {a : Nat → Nat} {k : Int32 → qS → Prop} (hx : p.tables.exec = Jvm.exec) (hb : c.code = cX10_number) (hml : c.maxLocals = 3) (hown : s.vm.findClass RX10 = some m.cls) (hts : ∀ w ∈ wsX10_number, w.before args s = true) (hA : ∀ q : Nat, s.heap.size ≤ q → A q) (hKn : qKn G A s s.heap) (hret : ∀ (r : Int32) (q : qS) (H : Heap) (locs : List Loc) (ls : Array Slot) (pc : Nat), k r q → va_P G.1 vwCl (wM G a q ++ R) H → va_D A (wM G a q ++ R) → va_S A s.heap H locs → decode cX10_number pc = .ok (.ireturn, 1) → W p l e rmX10_number s m args below meth c H locs 0 0 Qf (F0 m pc ls [.int r])) : ∀ (q : qS) (z1 : Int32) (H : Heap) (locs : List Loc) (ls : Array Slot), wX10_number_b27 k q z1 → va_P G.1 vwCl (wM G a q ++ R) H → va_D A (wM G a q ++ R) → va_S A s.heap H locs → lv_has ls 3 [(0, .ref (a 0))] → W p l e rmX10_number s m args below meth c H locs 0 0 Qf (F0 m 27 ls [.int z1, .ref (a 0)]) := by
  intro q z1 H locs ls h hP hD hS hl
  unfold wX10_number_b27 at h
  obtain ⟨hn1, hf1, h⟩ := h
  refine va_put (D := G.1) (ci := 10) (v := .int z1) (ty := .boolean) (C := RX10) (T := TX10) (N := 15) hx hb hts iX10_number_X10 tyX10 tyX10_ok nmX10 hown hKn.k hP hD hS 0 rfl rfl 12 (by decide) (hts _ lX10_number_f159) (fun _ h9 => h9) rfl (by decide +kernel) hn1 hf1 (Nat.le_of_ble_eq_true rfl) dX10_number_27 (fun H locs hP hD hS => ?_)
  obtain ⟨q13, eq13⟩ : ∃ z : qS, z = up2 q 0 12 z1 := ⟨_, rfl⟩
  have hP : va_P G.1 vwCl (wM G a q13 ++ R) H := by rw [eq13]; exact hP
  have hD : va_D A (wM G a q13 ++ R) := by rw [eq13]; exact hD
  have h := h q13 eq13
  refine lv_aload_n hx hb dX10_number_30 rfl (lv_at hl 0 rfl) ?_
  refine qc_vi (As := []) (rest := []) ⟨hx, hb, hml, hown, hts⟩ (mX10_sign l G _ _ a q13 _ ) (cwV 0 hts gX10_number_X10_sign rfl rfl rfl (by decide +kernel) ⟨Nat.le_of_ble_eq_true rfl, Nat.le_of_ble_eq_true rfl⟩) hP hD hS hA hKn 0 10 rfl rfl rfl h rfl hl.1 rfl (Nat.le_of_ble_eq_true rfl) dX10_number_31 ⟨Nat.zero_le _, Nat.zero_le _⟩ (fun r14 q15 H locs h hP hD hS => ?_)
  have hP : va_P G.1 vwCl (wM G a q15 ++ R) H := hP
  have hD : va_D A (wM G a q15 ++ R) := hD
  refine lv_bipush (v := (48 : Int32)) hx hb dX10_number_34 (by decide) ?_
  refine lv_isub hx hb dX10_number_36 ?_
  refine lv_topi (fun y16 ey16 => ?_)
  have h := h y16 ey16
  refine lv_istore_n (lv' := [(1, .int y16), (0, .ref (a 0))]) hx hb dX10_number_37 rfl hl (by decide) rfl (fun ls hl => ?_)
  refine lv_aload_n hx hb dX10_number_38 rfl (lv_at hl 1 rfl) ?_
  refine lv_dup hx hb dX10_number_39 rfl ?_
  refine va_get (D := G.1) (ci := 10) (v := .int (q15 0 11)) (C := RX10) (T := TX10) (N := 15) hx hb hts iX10_number_X10 hown hKn.k hP 0 rfl rfl 11 (by decide) (hts _ lX10_number_f156) (fun _ h9 => h9) rfl dX10_number_40 ?_
  refine lv_aload_n hx hb dX10_number_43 rfl (lv_at hl 1 rfl) ?_
  refine va_get (D := G.1) (ci := 10) (v := .int (q15 0 12)) (C := RX10) (T := TX10) (N := 15) hx hb hts iX10_number_X10 hown hKn.k hP 0 rfl rfl 12 (by decide) (hts _ lX10_number_f159) (fun _ h9 => h9) rfl dX10_number_44 ?_
  refine lv_if_eq (tgt := 54) hx hb dX10_number_47 (by decide) (fun c1 => ?_) (fun c1 => ?_)
  · have h := h.1 c1
    refine lv_iconst (v := (0 : Int32)) hx hb dX10_number_54 (by decide) ?_
    exact kX10_number_b55 hx hb hml hown hts hA hKn hret q15 y16 (q15 0 11) (0 : Int32) _ _ _ h hP hD hS (lv_sub hl [1, 0] rfl)
  · have h := h.2 c1
    refine lv_iconst (v := (1 : Int32)) hx hb dX10_number_50 (by decide) ?_
    refine lv_goto (tgt := 55) hx hb dX10_number_51 (by decide) ?_
    exact kX10_number_b55 hx hb hml hown hts hA hKn hret q15 y16 (q15 0 11) (1 : Int32) _ _ _ h hP hD hS (lv_sub hl [1, 0] rfl)
set_option maxHeartbeats 4000000 in
set_option maxRecDepth 100000 in
theorem kX10_number_b26 {p : Program} {l : Launch} {e : Env} {s : State} {m : MethodId} {args : Array Value} {below : List Frame} {meth : Method} {c : Code} {G : qG} {A : Nat → Prop} {Qf : State → Prop} {R : va_W} {a : Nat → Nat} {k : Int32 → qS → Prop} (hx : p.tables.exec = Jvm.exec) (hb : c.code = cX10_number) (hml : c.maxLocals = 3) (hown : s.vm.findClass RX10 = some m.cls) (hts : ∀ w ∈ wsX10_number, w.before args s = true) (hA : ∀ q : Nat, s.heap.size ≤ q → A q) (hKn : qKn G A s s.heap) (hret : ∀ (r : Int32) (q : qS) (H : Heap) (locs : List Loc) (ls : Array Slot) (pc : Nat), k r q → va_P G.1 vwCl (wM G a q ++ R) H → va_D A (wM G a q ++ R) → va_S A s.heap H locs → decode cX10_number pc = .ok (.ireturn, 1) → W p l e rmX10_number s m args below meth c H locs 0 0 Qf (F0 m pc ls [.int r])) : ∀ (q : qS) (H : Heap) (locs : List Loc) (ls : Array Slot), wX10_number_b26 k q → va_P G.1 vwCl (wM G a q ++ R) H → va_D A (wM G a q ++ R) → va_S A s.heap H locs → lv_has ls 3 [(0, .ref (a 0))] → W p l e rmX10_number s m args below meth c H locs 0 0 Qf (F0 m 26 ls [.ref (a 0)]) := by
  intro q H locs ls h hP hD hS hl
  unfold wX10_number_b26 at h
  refine lv_iconst (v := (0 : Int32)) hx hb dX10_number_26 (by decide) ?_
  exact kX10_number_b27 hx hb hml hown hts hA hKn hret q (0 : Int32) _ _ _ h hP hD hS (lv_sub hl [0] rfl)
set_option maxHeartbeats 4000000 in
set_option maxRecDepth 100000 in
theorem mX10_number (l : Launch) (G : qG) (k : Int32 → qS → Prop) (R : va_W) (a : Nat → Nat) (q : qS) (sz : Nat) : Met l yX10_number wsX10_number rmX10_number (qPc G [.ref (a 0)] (wM G a q ++ R) sz (wX10_number k q)) (qQi G (wM G a q ++ R) sz (fun (r : Int32) (u : qS) => k r u) (fun (u : qS) => wM G a u ++ R)) 0 0 (va_A (wM G a q ++ R) sz) := by
  refine Met.ofW (cc := cX10_number) (maxL := 3) (ret := (some .int)) (by decide) rfl ?_
  intro p e s m args below meth c s₁ B hml hv
  obtain ⟨rfl, hsz, hP, hD0, hKn0, h⟩ := hv
  have hx := B.exec
  have hb := B.bytes
  have hr := B.returns
  have hts := atoms_spec (ws := wsX10_number) B.pre
  have hown : s.vm.findClass RX10 = some m.cls := findClass_of_methodNamed B.named
  have hlocks := B.notSynchronized
  subst hsz
  have hD := hD0.self (sz := s.heap.size)
  generalize hAe : va_A (wM G a q ++ R) s.heap.size = A at hD hKn0 ⊢
  have hA : ∀ q : Nat, s.heap.size ≤ q → A q := fun q h => by rw [← hAe]; exact Or.inr h
  have hKn : qKn G A s s.heap := hKn0
  have hS : va_S A s.heap s.heap [] := va_S.rf
  have hret : ∀ (r : Int32) (q' : qS) (H : Heap) (locs : List Loc) (ls : Array Slot) (pc : Nat), k r q' → va_P G.1 vwCl (wM G a q' ++ R) H → va_D A (wM G a q' ++ R) → va_S A s.heap H locs → decode cX10_number pc = .ok (.ireturn, 1) → W p l e rmX10_number s m #[.ref (a 0)] below meth c H locs 0 0 (MQ below (qQi G (wM G a q ++ R) s.heap.size (fun (r : Int32) (u : qS) => k r u) (fun (u : qS) => wM G a u ++ R)) #[.ref (a 0)] s 0 0 A) (F0 m pc ls [.int r]) := fun r q' H locs ls pc hk hP hD hS hd => W.iret hx hb hr (fun t ht hW => q_ri (u := (q' : qS)) hAe hk hP hD hS ht) hS.2.2 hd
  have hl := lv_entry ([.ref (a 0)]) (n := 3) (Nat.le_of_ble_eq_true rfl)
  rw [lg_entry_eq]
  generalize (lg_sl ([.ref (a 0)]) ++ List.replicate (3 - (lg_sl ([.ref (a 0)])).length) Slot.unset).toArray = ls at hl ⊢
  have hl : lv_has ls 3 [(0, .ref (a 0))] := hl
  unfold wX10_number at h
  show W p l e rmX10_number s m #[.ref (a 0)] below meth c s.heap [] 0 0 _ _
  refine lv_aload_n hx hb dX10_number_0 rfl (lv_at hl 0 rfl) ?_
  refine lv_aload_n hx hb dX10_number_1 rfl (lv_at hl 0 rfl) ?_
  refine va_get (D := G.1) (ci := 10) (v := .int (q 0 12)) (C := RX10) (T := TX10) (N := 15) hx hb hts iX10_number_X10 hown hKn.k hP 0 rfl rfl 12 (by decide) (hts _ lX10_number_f159) (fun _ h9 => h9) rfl dX10_number_2 ?_
  refine lv_if_eq (tgt := 26) hx hb dX10_number_5 (by decide) (fun c1 => ?_) (fun c1 => ?_)
  · have h := h.1 c1
    exact kX10_number_b26 hx hb hml hown hts hA hKn hret q _ _ _ h hP hD hS (lv_sub hl [0] rfl)
  · have h := h.2 c1
    refine lv_aload_n hx hb dX10_number_8 rfl (lv_at hl 0 rfl) ?_
    refine qc_vi (As := []) (rest := [.ref (a 0)]) ⟨hx, hb, hml, hown, hts⟩ (mX10_sign l G _ _ a q _ ) (cwV 0 hts gX10_number_X10_sign rfl rfl rfl (by decide +kernel) ⟨Nat.le_of_ble_eq_true rfl, Nat.le_of_ble_eq_true rfl⟩) hP hD hS hA hKn 0 10 rfl rfl rfl h rfl hl.1 rfl (Nat.le_of_ble_eq_true rfl) dX10_number_9 ⟨Nat.zero_le _, Nat.zero_le _⟩ (fun r17 q18 H locs h hP hD hS => ?_)
    have hP : va_P G.1 vwCl (wM G a q18 ++ R) H := hP
    have hD : va_D A (wM G a q18 ++ R) := hD
    refine lv_bipush (v := (48 : Int32)) hx hb dX10_number_12 (by decide) ?_
    refine lv_bipush (v := (57 : Int32)) hx hb dX10_number_14 (by decide) ?_
    refine qc_si (As := [.int r17, .int (48 : Int32), .int (57 : Int32)]) (rest := [.ref (a 0)]) ⟨hx, hb, hml, hown, hts⟩ (mX10_in l G _ _ _ r17 (48 : Int32) (57 : Int32)) (cwS 3 hts gX10_number_X10_in rfl rfl rfl (by decide +kernel) ⟨Nat.le_of_ble_eq_true rfl, Nat.le_of_ble_eq_true rfl⟩) hP hD hS hA hKn h rfl hl.1 rfl (Nat.le_of_ble_eq_true rfl) dX10_number_16 ⟨Nat.zero_le _, Nat.zero_le _⟩ (fun r19 _ H locs h hP hD hS => ?_)
    have hP : va_P G.1 vwCl (wM G a q18 ++ R) H := hP
    have hD : va_D A (wM G a q18 ++ R) := hD
    refine lv_if_eq (tgt := 26) hx hb dX10_number_19 (by decide) (fun c1 => ?_) (fun c1 => ?_)
    · have h := h.1 c1
      exact kX10_number_b26 hx hb hml hown hts hA hKn hret q18 _ _ _ h hP hD hS (lv_sub hl [0] rfl)
    · have h := h.2 c1
      refine lv_iconst (v := (1 : Int32)) hx hb dX10_number_22 (by decide) ?_
      refine lv_goto (tgt := 27) hx hb dX10_number_23 (by decide) ?_
      exact kX10_number_b27 hx hb hml hown hts hA hKn hret q18 (1 : Int32) _ _ _ h hP hD hS (lv_sub hl [0] rfl)
abbrev rmX10_next : Room := { frames := 2, cells := 0, slots := 0, locals := 44 }
theorem lX10_next_f169 : Cond.fieldLink RX10 169 "QuarryBlendsModel" "orderMany" "I" ∈ wsX10_next := by decide +kernel
theorem lX10_next_f29 : Cond.fieldLink RX10 29 "QuarryBlendsModel" "orders" "[I" ∈ wsX10_next := by decide +kernel
theorem iX10_next_X10 : ∀ w ∈ wsX100, w ∈ wsX10_next := by decide +kernel
set_option maxHeartbeats 4000000 in
set_option maxRecDepth 100000 in
theorem mX10_next (l : Launch) (G : qG) (k : qS → Prop) (R : va_W) (a : Nat → Nat) (q : qS) (sz : Nat) (p0 : Int32) (p1 : Int32) : Met l yX10_next wsX10_next rmX10_next (qPc G [.ref (a 0), .int p0, .int p1] (wM G a q ++ R) sz (wX10_next k q p0 p1)) (qQv G (wM G a q ++ R) sz (fun (u : qS) => k u) (fun (u : qS) => wM G a u ++ R)) 0 0 (va_A (wM G a q ++ R) sz) := by
  refine Met.ofW (cc := cX10_next) (maxL := 3) (ret := none) (by decide) rfl ?_
  intro p e s m args below meth c s₁ B hml hv
  obtain ⟨rfl, hsz, hP, hD0, hKn0, h⟩ := hv
  have hx := B.exec
  have hb := B.bytes
  have hr := B.returns
  have hts := atoms_spec (ws := wsX10_next) B.pre
  have hown : s.vm.findClass RX10 = some m.cls := findClass_of_methodNamed B.named
  have hlocks := B.notSynchronized
  subst hsz
  have hD := hD0.self (sz := s.heap.size)
  generalize hAe : va_A (wM G a q ++ R) s.heap.size = A at hD hKn0 ⊢
  have hA : ∀ q : Nat, s.heap.size ≤ q → A q := fun q h => by rw [← hAe]; exact Or.inr h
  have hKn : qKn G A s s.heap := hKn0
  have hS : va_S A s.heap s.heap [] := va_S.rf
  have hret : ∀ (q' : qS) (H : Heap) (locs : List Loc) (ls : Array Slot) (pc : Nat), k q' → va_P G.1 vwCl (wM G a q' ++ R) H → va_D A (wM G a q' ++ R) → va_S A s.heap H locs → decode cX10_next pc = .ok (.return_, 1) → W p l e rmX10_next s m #[.ref (a 0), .int p0, .int p1] below meth c H locs 0 0 (MQ below (qQv G (wM G a q ++ R) s.heap.size (fun (u : qS) => k u) (fun (u : qS) => wM G a u ++ R)) #[.ref (a 0), .int p0, .int p1] s 0 0 A) (F0 m pc ls []) := fun q' H locs ls pc hk hP hD hS hd => W.vret hx hb hr (fun t ht hW => q_rv (u := (q' : qS)) hAe hk hP hD hS ht) hS.2.2 hd
  have hl := lv_entry ([.ref (a 0), .int p0, .int p1]) (n := 3) (Nat.le_of_ble_eq_true rfl)
  rw [lg_entry_eq]
  generalize (lg_sl ([.ref (a 0), .int p0, .int p1]) ++ List.replicate (3 - (lg_sl ([.ref (a 0), .int p0, .int p1])).length) Slot.unset).toArray = ls at hl ⊢
  have hl : lv_has ls 3 [(0, .ref (a 0)), (1, .int p0), (2, .int p1)] := hl
  unfold wX10_next at h
  show W p l e rmX10_next s m #[.ref (a 0), .int p0, .int p1] below meth c s.heap [] 0 0 _ _
  refine lv_aload_n hx hb dX10_next_0 rfl (lv_at hl 0 rfl) ?_
  refine lv_iload_n hx hb dX10_next_1 rfl (lv_at hl 2 rfl) ?_
  refine qc_vv (As := [.int p1]) (rest := []) ⟨hx, hb, hml, hown, hts⟩ (mX10_wants l G _ _ a q _ p1) (cwV 1 hts gX10_next_X10_wants rfl rfl rfl (by decide +kernel) ⟨Nat.le_of_ble_eq_true rfl, Nat.le_of_ble_eq_true rfl⟩) hP hD hS hA hKn 0 10 rfl rfl rfl h rfl hl.1 rfl (Nat.le_of_ble_eq_true rfl) dX10_next_2 ⟨Nat.zero_le _, Nat.zero_le _⟩ (fun q2 H locs h hP hD hS => ?_)
  have hP : va_P G.1 vwCl (wM G a q2 ++ R) H := hP
  have hD : va_D A (wM G a q2 ++ R) := hD
  refine lv_aload_n hx hb dX10_next_5 rfl (lv_at hl 0 rfl) ?_
  refine va_get (D := G.1) (ci := 10) (v := .ref (a 13)) (C := RX10) (T := TX10) (N := 15) hx hb hts iX10_next_X10 hown hKn.k hP 0 rfl rfl 13 (by decide) (hts _ lX10_next_f29) (fun _ h9 => h9) rfl dX10_next_6 ?_
  refine lv_bipush (v := (7 : Int32)) hx hb dX10_next_9 (by decide) ?_
  refine lv_aload_n hx hb dX10_next_11 rfl (lv_at hl 0 rfl) ?_
  refine va_get (D := G.1) (ci := 10) (v := .int (q2 0 14)) (C := RX10) (T := TX10) (N := 15) hx hb hts iX10_next_X10 hown hKn.k hP 0 rfl rfl 14 (by decide) (hts _ lX10_next_f169) (fun _ h9 => h9) rfl dX10_next_12 ?_
  refine lv_imul hx hb dX10_next_15 ?_
  refine lv_iload_n hx hb dX10_next_16 rfl (lv_at hl 1 rfl) ?_
  refine lv_iadd hx hb dX10_next_17 ?_
  refine lv_aload_n hx hb dX10_next_18 rfl (lv_at hl 0 rfl) ?_
  refine qc_vi (As := []) (rest := [.int (((7 : Int32) * (q2 0 14)) + p0), .ref (a 13)]) ⟨hx, hb, hml, hown, hts⟩ (mX10_number l G _ _ a q2 _ ) (cwV 0 hts gX10_next_X10_number rfl rfl rfl (by decide +kernel) ⟨Nat.le_of_ble_eq_true rfl, Nat.le_of_ble_eq_true rfl⟩) hP hD hS hA hKn 0 10 rfl rfl rfl h rfl hl.1 rfl (Nat.le_of_ble_eq_true rfl) dX10_next_19 ⟨Nat.zero_le _, Nat.zero_le _⟩ (fun r3 q4 H locs h hP hD hS => ?_)
  have hP : va_P G.1 vwCl (wM G a q4 ++ R) H := hP
  have hD : va_D A (wM G a q4 ++ R) := hD
  obtain ⟨hin, h⟩ := h
  refine va_iast hx hb hKn.k hP hD hS 7 0 rfl rfl hin dX10_next_22 (fun H locs hP hD hS => ?_)
  obtain ⟨q5, eq5⟩ : ∃ z : qS, z = up2 q4 13 (Int32.toNatClampNeg (((7 : Int32) * (q2 0 14)) + p0)) r3 := ⟨_, rfl⟩
  have hP : va_P G.1 vwCl (wM G a q5 ++ R) H := by rw [eq5]; exact hP
  have hD : va_D A (wM G a q5 ++ R) := by rw [eq5]; exact hD
  have h := h q5 eq5
  exact hret _ _ _ _ _ h hP hD hS dX10_next_23
abbrev rmX10_readsOrder : Room := { frames := 3, cells := 0, slots := 0, locals := 66 }
theorem lX10_readsOrder_f156 : Cond.fieldLink RX10 156 "QuarryBlendsModel" "at" "I" ∈ wsX10_readsOrder := by decide +kernel
theorem lX10_readsOrder_f159 : Cond.fieldLink RX10 159 "QuarryBlendsModel" "isWell" "Z" ∈ wsX10_readsOrder := by decide +kernel
theorem lX10_readsOrder_f169 : Cond.fieldLink RX10 169 "QuarryBlendsModel" "orderMany" "I" ∈ wsX10_readsOrder := by decide +kernel
theorem lX10_readsOrder_f29 : Cond.fieldLink RX10 29 "QuarryBlendsModel" "orders" "[I" ∈ wsX10_readsOrder := by decide +kernel
theorem iX10_readsOrder_X10 : ∀ w ∈ wsX100, w ∈ wsX10_readsOrder := by decide +kernel
set_option maxHeartbeats 4000000 in
set_option maxRecDepth 100000 in
theorem kX10_readsOrder_b235 {p : Program} {l : Launch} {e : Env} {s : State} {m : MethodId} {args : Array Value} {below : List Frame} {meth : Method} {c : Code} {G : qG} {A : Nat → Prop} {Qf : State → Prop} {R : va_W} {a : Nat → Nat} {k : qS → Prop} (hx : p.tables.exec = Jvm.exec) (hb : c.code = cX10_readsOrder) (hml : c.maxLocals = 4) (hown : s.vm.findClass RX10 = some m.cls) (hts : ∀ w ∈ wsX10_readsOrder, w.before args s = true) (hA : ∀ q : Nat, s.heap.size ≤ q → A q) (hKn : qKn G A s s.heap) (hret : ∀ (q : qS) (H : Heap) (locs : List Loc) (ls : Array Slot) (pc : Nat), k q → va_P G.1 vwCl (wM G a q ++ R) H → va_D A (wM G a q ++ R) → va_S A s.heap H locs → decode cX10_readsOrder pc = .ok (.return_, 1) → W p l e rmX10_readsOrder s m args below meth c H locs 0 0 Qf (F0 m pc ls [])) : ∀ (q : qS) (z1 : Int32) (z2 : Int32) (H : Heap) (locs : List Loc) (ls : Array Slot), wX10_readsOrder_b235 k q z1 z2 → va_P G.1 vwCl (wM G a q ++ R) H → va_D A (wM G a q ++ R) → va_S A s.heap H locs → lv_has ls 4 [] → W p l e rmX10_readsOrder s m args below meth c H locs 0 0 Qf (F0 m 235 ls [.int z2, .int z1, .ref (a 0)]) := by
  intro q z1 z2 H locs ls h hP hD hS hl
  unfold wX10_readsOrder_b235 at h
  refine lv_iadd hx hb dX10_readsOrder_235 ?_
  refine lv_topi (fun y1 ey1 => ?_)
  have h := h y1 ey1
  refine va_put (D := G.1) (ci := 10) (v := .int y1) (ty := .int) (C := RX10) (T := TX10) (N := 15) hx hb hts iX10_readsOrder_X10 tyX10 tyX10_ok nmX10 hown hKn.k hP hD hS 0 rfl rfl 14 (by decide) (hts _ lX10_readsOrder_f169) (fun _ h9 => h9) rfl (by decide +kernel) rfl rfl (Nat.le_of_ble_eq_true rfl) dX10_readsOrder_236 (fun H locs hP hD hS => ?_)
  obtain ⟨q2, eq2⟩ : ∃ z : qS, z = up2 q 0 14 y1 := ⟨_, rfl⟩
  have hP : va_P G.1 vwCl (wM G a q2 ++ R) H := by rw [eq2]; exact hP
  have hD : va_D A (wM G a q2 ++ R) := by rw [eq2]; exact hD
  have h := h q2 eq2
  exact hret _ _ _ _ _ h hP hD hS dX10_readsOrder_239
set_option maxHeartbeats 4000000 in
set_option maxRecDepth 100000 in
theorem kX10_readsOrder_b218 {p : Program} {l : Launch} {e : Env} {s : State} {m : MethodId} {args : Array Value} {below : List Frame} {meth : Method} {c : Code} {G : qG} {A : Nat → Prop} {Qf : State → Prop} {R : va_W} {a : Nat → Nat} {k : qS → Prop} (hx : p.tables.exec = Jvm.exec) (hb : c.code = cX10_readsOrder) (hml : c.maxLocals = 4) (hown : s.vm.findClass RX10 = some m.cls) (hts : ∀ w ∈ wsX10_readsOrder, w.before args s = true) (hA : ∀ q : Nat, s.heap.size ≤ q → A q) (hKn : qKn G A s s.heap) (hret : ∀ (q : qS) (H : Heap) (locs : List Loc) (ls : Array Slot) (pc : Nat), k q → va_P G.1 vwCl (wM G a q ++ R) H → va_D A (wM G a q ++ R) → va_S A s.heap H locs → decode cX10_readsOrder pc = .ok (.return_, 1) → W p l e rmX10_readsOrder s m args below meth c H locs 0 0 Qf (F0 m pc ls [])) : ∀ (q : qS) (H : Heap) (locs : List Loc) (ls : Array Slot), wX10_readsOrder_b218 k q → va_P G.1 vwCl (wM G a q ++ R) H → va_D A (wM G a q ++ R) → va_S A s.heap H locs → lv_has ls 4 [(0, .ref (a 0))] → W p l e rmX10_readsOrder s m args below meth c H locs 0 0 Qf (F0 m 218 ls []) := by
  intro q H locs ls h hP hD hS hl
  unfold wX10_readsOrder_b218 at h
  refine lv_aload_n hx hb dX10_readsOrder_218 rfl (lv_at hl 0 rfl) ?_
  refine lv_dup hx hb dX10_readsOrder_219 rfl ?_
  refine va_get (D := G.1) (ci := 10) (v := .int (q 0 14)) (C := RX10) (T := TX10) (N := 15) hx hb hts iX10_readsOrder_X10 hown hKn.k hP 0 rfl rfl 14 (by decide) (hts _ lX10_readsOrder_f169) (fun _ h9 => h9) rfl dX10_readsOrder_220 ?_
  refine lv_aload_n hx hb dX10_readsOrder_223 rfl (lv_at hl 0 rfl) ?_
  refine va_get (D := G.1) (ci := 10) (v := .int (q 0 12)) (C := RX10) (T := TX10) (N := 15) hx hb hts iX10_readsOrder_X10 hown hKn.k hP 0 rfl rfl 12 (by decide) (hts _ lX10_readsOrder_f159) (fun _ h9 => h9) rfl dX10_readsOrder_224 ?_
  refine lv_if_eq (tgt := 234) hx hb dX10_readsOrder_227 (by decide) (fun c1 => ?_) (fun c1 => ?_)
  · have h := h.1 c1
    refine lv_iconst (v := (0 : Int32)) hx hb dX10_readsOrder_234 (by decide) ?_
    exact kX10_readsOrder_b235 hx hb hml hown hts hA hKn hret q (q 0 14) (0 : Int32) _ _ _ h hP hD hS (lv_sub hl [] rfl)
  · have h := h.2 c1
    refine lv_iconst (v := (1 : Int32)) hx hb dX10_readsOrder_230 (by decide) ?_
    refine lv_goto (tgt := 235) hx hb dX10_readsOrder_231 (by decide) ?_
    exact kX10_readsOrder_b235 hx hb hml hown hts hA hKn hret q (q 0 14) (1 : Int32) _ _ _ h hP hD hS (lv_sub hl [] rfl)
set_option maxHeartbeats 4000000 in
set_option maxRecDepth 100000 in
theorem kX10_readsOrder_b142 {p : Program} {l : Launch} {e : Env} {s : State} {m : MethodId} {args : Array Value} {below : List Frame} {meth : Method} {c : Code} {G : qG} {A : Nat → Prop} {Qf : State → Prop} {R : va_W} {a : Nat → Nat} {k : qS → Prop} (hx : p.tables.exec = Jvm.exec) (hb : c.code = cX10_readsOrder) (hml : c.maxLocals = 4) (hown : s.vm.findClass RX10 = some m.cls) (hts : ∀ w ∈ wsX10_readsOrder, w.before args s = true) (hA : ∀ q : Nat, s.heap.size ≤ q → A q) (hKn : qKn G A s s.heap) (hret : ∀ (q : qS) (H : Heap) (locs : List Loc) (ls : Array Slot) (pc : Nat), k q → va_P G.1 vwCl (wM G a q ++ R) H → va_D A (wM G a q ++ R) → va_S A s.heap H locs → decode cX10_readsOrder pc = .ok (.return_, 1) → W p l e rmX10_readsOrder s m args below meth c H locs 0 0 Qf (F0 m pc ls [])) : ∀ (q : qS) (x1 : Int32) (x2 : Int32) (H : Heap) (locs : List Loc) (ls : Array Slot), wX10_readsOrder_b142 k q x1 x2 → va_P G.1 vwCl (wM G a q ++ R) H → va_D A (wM G a q ++ R) → va_S A s.heap H locs → lv_has ls 4 [(0, .ref (a 0)), (1, .int x1), (2, .int x2)] → W p l e rmX10_readsOrder s m args below meth c H locs 0 0 Qf (F0 m 142 ls []) := by
  intro q x1 x2 H locs ls h hP hD hS hl
  unfold wX10_readsOrder_b142 at h
  refine lv_iload_n hx hb dX10_readsOrder_142 rfl (lv_at hl 2 rfl) ?_
  refine lv_bipush (v := (102 : Int32)) hx hb dX10_readsOrder_143 (by decide) ?_
  refine lv_icmp_ne (tgt := 176) hx hb dX10_readsOrder_145 (by decide) (fun c1 => ?_) (fun c1 => ?_)
  · have h := h.1 c1
    refine lv_iload_n hx hb dX10_readsOrder_176 rfl (lv_at hl 2 rfl) ?_
    refine lv_bipush (v := (99 : Int32)) hx hb dX10_readsOrder_177 (by decide) ?_
    refine lv_icmp_ne (tgt := 218) hx hb dX10_readsOrder_179 (by decide) (fun c1 => ?_) (fun c1 => ?_)
    · have h := h.1 c1
      exact kX10_readsOrder_b218 hx hb hml hown hts hA hKn hret q _ _ _ h hP hD hS (lv_sub hl [0] rfl)
    · have h := h.2 c1
      refine lv_aload_n hx hb dX10_readsOrder_182 rfl (lv_at hl 0 rfl) ?_
      refine lv_iconst (v := (2 : Int32)) hx hb dX10_readsOrder_183 (by decide) ?_
      refine lv_bipush (v := (58 : Int32)) hx hb dX10_readsOrder_184 (by decide) ?_
      refine qc_vv (As := [.int (2 : Int32), .int (58 : Int32)]) (rest := []) ⟨hx, hb, hml, hown, hts⟩ (mX10_next l G _ _ a q _ (2 : Int32) (58 : Int32)) (cwV 2 hts gX10_readsOrder_X10_next rfl rfl rfl (by decide +kernel) ⟨Nat.le_of_ble_eq_true rfl, Nat.le_of_ble_eq_true rfl⟩) hP hD hS hA hKn 0 10 rfl rfl rfl h rfl hl.1 rfl (Nat.le_of_ble_eq_true rfl) dX10_readsOrder_186 ⟨Nat.zero_le _, Nat.zero_le _⟩ (fun q4 H locs h hP hD hS => ?_)
      have hP : va_P G.1 vwCl (wM G a q4 ++ R) H := hP
      have hD : va_D A (wM G a q4 ++ R) := hD
      refine lv_aload_n hx hb dX10_readsOrder_189 rfl (lv_at hl 0 rfl) ?_
      refine lv_iconst (v := (3 : Int32)) hx hb dX10_readsOrder_190 (by decide) ?_
      refine lv_bipush (v := (45 : Int32)) hx hb dX10_readsOrder_191 (by decide) ?_
      refine qc_vv (As := [.int (3 : Int32), .int (45 : Int32)]) (rest := []) ⟨hx, hb, hml, hown, hts⟩ (mX10_next l G _ _ a q4 _ (3 : Int32) (45 : Int32)) (cwV 2 hts gX10_readsOrder_X10_next rfl rfl rfl (by decide +kernel) ⟨Nat.le_of_ble_eq_true rfl, Nat.le_of_ble_eq_true rfl⟩) hP hD hS hA hKn 0 10 rfl rfl rfl h rfl hl.1 rfl (Nat.le_of_ble_eq_true rfl) dX10_readsOrder_193 ⟨Nat.zero_le _, Nat.zero_le _⟩ (fun q6 H locs h hP hD hS => ?_)
      have hP : va_P G.1 vwCl (wM G a q6 ++ R) H := hP
      have hD : va_D A (wM G a q6 ++ R) := hD
      refine lv_aload_n hx hb dX10_readsOrder_196 rfl (lv_at hl 0 rfl) ?_
      refine lv_iconst (v := (4 : Int32)) hx hb dX10_readsOrder_197 (by decide) ?_
      refine lv_bipush (v := (47 : Int32)) hx hb dX10_readsOrder_198 (by decide) ?_
      refine qc_vv (As := [.int (4 : Int32), .int (47 : Int32)]) (rest := []) ⟨hx, hb, hml, hown, hts⟩ (mX10_next l G _ _ a q6 _ (4 : Int32) (47 : Int32)) (cwV 2 hts gX10_readsOrder_X10_next rfl rfl rfl (by decide +kernel) ⟨Nat.le_of_ble_eq_true rfl, Nat.le_of_ble_eq_true rfl⟩) hP hD hS hA hKn 0 10 rfl rfl rfl h rfl hl.1 rfl (Nat.le_of_ble_eq_true rfl) dX10_readsOrder_200 ⟨Nat.zero_le _, Nat.zero_le _⟩ (fun q8 H locs h hP hD hS => ?_)
      have hP : va_P G.1 vwCl (wM G a q8 ++ R) H := hP
      have hD : va_D A (wM G a q8 ++ R) := hD
      refine lv_aload_n hx hb dX10_readsOrder_203 rfl (lv_at hl 0 rfl) ?_
      refine lv_iconst (v := (5 : Int32)) hx hb dX10_readsOrder_204 (by decide) ?_
      refine lv_bipush (v := (45 : Int32)) hx hb dX10_readsOrder_205 (by decide) ?_
      refine qc_vv (As := [.int (5 : Int32), .int (45 : Int32)]) (rest := []) ⟨hx, hb, hml, hown, hts⟩ (mX10_next l G _ _ a q8 _ (5 : Int32) (45 : Int32)) (cwV 2 hts gX10_readsOrder_X10_next rfl rfl rfl (by decide +kernel) ⟨Nat.le_of_ble_eq_true rfl, Nat.le_of_ble_eq_true rfl⟩) hP hD hS hA hKn 0 10 rfl rfl rfl h rfl hl.1 rfl (Nat.le_of_ble_eq_true rfl) dX10_readsOrder_207 ⟨Nat.zero_le _, Nat.zero_le _⟩ (fun q10 H locs h hP hD hS => ?_)
      have hP : va_P G.1 vwCl (wM G a q10 ++ R) H := hP
      have hD : va_D A (wM G a q10 ++ R) := hD
      refine lv_aload_n hx hb dX10_readsOrder_210 rfl (lv_at hl 0 rfl) ?_
      refine lv_bipush (v := (6 : Int32)) hx hb dX10_readsOrder_211 (by decide) ?_
      refine lv_bipush (v := (36 : Int32)) hx hb dX10_readsOrder_213 (by decide) ?_
      refine qc_vv (As := [.int (6 : Int32), .int (36 : Int32)]) (rest := []) ⟨hx, hb, hml, hown, hts⟩ (mX10_next l G _ _ a q10 _ (6 : Int32) (36 : Int32)) (cwV 2 hts gX10_readsOrder_X10_next rfl rfl rfl (by decide +kernel) ⟨Nat.le_of_ble_eq_true rfl, Nat.le_of_ble_eq_true rfl⟩) hP hD hS hA hKn 0 10 rfl rfl rfl h rfl hl.1 rfl (Nat.le_of_ble_eq_true rfl) dX10_readsOrder_215 ⟨Nat.zero_le _, Nat.zero_le _⟩ (fun q12 H locs h hP hD hS => ?_)
      have hP : va_P G.1 vwCl (wM G a q12 ++ R) H := hP
      have hD : va_D A (wM G a q12 ++ R) := hD
      exact kX10_readsOrder_b218 hx hb hml hown hts hA hKn hret q12 _ _ _ h hP hD hS (lv_sub hl [0] rfl)
  · have h := h.2 c1
    refine lv_aload_n hx hb dX10_readsOrder_148 rfl (lv_at hl 0 rfl) ?_
    refine lv_bipush (v := (42 : Int32)) hx hb dX10_readsOrder_149 (by decide) ?_
    refine qc_vv (As := [.int (42 : Int32)]) (rest := []) ⟨hx, hb, hml, hown, hts⟩ (mX10_wants l G _ _ a q _ (42 : Int32)) (cwV 1 hts gX10_readsOrder_X10_wants rfl rfl rfl (by decide +kernel) ⟨Nat.le_of_ble_eq_true rfl, Nat.le_of_ble_eq_true rfl⟩) hP hD hS hA hKn 0 10 rfl rfl rfl h rfl hl.1 rfl (Nat.le_of_ble_eq_true rfl) dX10_readsOrder_151 ⟨Nat.zero_le _, Nat.zero_le _⟩ (fun q14 H locs h hP hD hS => ?_)
    have hP : va_P G.1 vwCl (wM G a q14 ++ R) H := hP
    have hD : va_D A (wM G a q14 ++ R) := hD
    refine lv_aload_n hx hb dX10_readsOrder_154 rfl (lv_at hl 0 rfl) ?_
    refine va_get (D := G.1) (ci := 10) (v := .ref (a 13)) (C := RX10) (T := TX10) (N := 15) hx hb hts iX10_readsOrder_X10 hown hKn.k hP 0 rfl rfl 13 (by decide) (hts _ lX10_readsOrder_f29) (fun _ h9 => h9) rfl dX10_readsOrder_155 ?_
    refine lv_iload_n hx hb dX10_readsOrder_158 rfl (lv_at hl 1 rfl) ?_
    refine lv_iconst (v := (2 : Int32)) hx hb dX10_readsOrder_159 (by decide) ?_
    refine lv_iadd hx hb dX10_readsOrder_160 ?_
    refine lv_aload_n hx hb dX10_readsOrder_161 rfl (lv_at hl 0 rfl) ?_
    refine qc_vi (As := []) (rest := [.int (x1 + (2 : Int32)), .ref (a 13)]) ⟨hx, hb, hml, hown, hts⟩ (mX10_digit l G _ _ a q14 _ ) (cwV 0 hts gX10_readsOrder_X10_digit rfl rfl rfl (by decide +kernel) ⟨Nat.le_of_ble_eq_true rfl, Nat.le_of_ble_eq_true rfl⟩) hP hD hS hA hKn 0 10 rfl rfl rfl h rfl hl.1 rfl (Nat.le_of_ble_eq_true rfl) dX10_readsOrder_162 ⟨Nat.zero_le _, Nat.zero_le _⟩ (fun r15 q16 H locs h hP hD hS => ?_)
    have hP : va_P G.1 vwCl (wM G a q16 ++ R) H := hP
    have hD : va_D A (wM G a q16 ++ R) := hD
    obtain ⟨hin, h⟩ := h
    refine va_iast hx hb hKn.k hP hD hS 7 0 rfl rfl hin dX10_readsOrder_165 (fun H locs hP hD hS => ?_)
    obtain ⟨q17, eq17⟩ : ∃ z : qS, z = up2 q16 13 (Int32.toNatClampNeg (x1 + (2 : Int32))) r15 := ⟨_, rfl⟩
    have hP : va_P G.1 vwCl (wM G a q17 ++ R) H := by rw [eq17]; exact hP
    have hD : va_D A (wM G a q17 ++ R) := by rw [eq17]; exact hD
    have h := h q17 eq17
    refine lv_aload_n hx hb dX10_readsOrder_166 rfl (lv_at hl 0 rfl) ?_
    refine lv_iconst (v := (3 : Int32)) hx hb dX10_readsOrder_167 (by decide) ?_
    refine lv_bipush (v := (43 : Int32)) hx hb dX10_readsOrder_168 (by decide) ?_
    refine qc_vv (As := [.int (3 : Int32), .int (43 : Int32)]) (rest := []) ⟨hx, hb, hml, hown, hts⟩ (mX10_next l G _ _ a q17 _ (3 : Int32) (43 : Int32)) (cwV 2 hts gX10_readsOrder_X10_next rfl rfl rfl (by decide +kernel) ⟨Nat.le_of_ble_eq_true rfl, Nat.le_of_ble_eq_true rfl⟩) hP hD hS hA hKn 0 10 rfl rfl rfl h rfl hl.1 rfl (Nat.le_of_ble_eq_true rfl) dX10_readsOrder_170 ⟨Nat.zero_le _, Nat.zero_le _⟩ (fun q19 H locs h hP hD hS => ?_)
    have hP : va_P G.1 vwCl (wM G a q19 ++ R) H := hP
    have hD : va_D A (wM G a q19 ++ R) := hD
    refine lv_goto (tgt := 218) hx hb dX10_readsOrder_173 (by decide) ?_
    exact kX10_readsOrder_b218 hx hb hml hown hts hA hKn hret q19 _ _ _ h hP hD hS (lv_sub hl [0] rfl)
set_option maxHeartbeats 4000000 in
set_option maxRecDepth 100000 in
theorem kX10_readsOrder_b92 {p : Program} {l : Launch} {e : Env} {s : State} {m : MethodId} {args : Array Value} {below : List Frame} {meth : Method} {c : Code} {G : qG} {A : Nat → Prop} {Qf : State → Prop} {R : va_W} {a : Nat → Nat} {k : qS → Prop} (hx : p.tables.exec = Jvm.exec) (hb : c.code = cX10_readsOrder) (hml : c.maxLocals = 4) (hown : s.vm.findClass RX10 = some m.cls) (hts : ∀ w ∈ wsX10_readsOrder, w.before args s = true) (hA : ∀ q : Nat, s.heap.size ≤ q → A q) (hKn : qKn G A s s.heap) (hret : ∀ (q : qS) (H : Heap) (locs : List Loc) (ls : Array Slot) (pc : Nat), k q → va_P G.1 vwCl (wM G a q ++ R) H → va_D A (wM G a q ++ R) → va_S A s.heap H locs → decode cX10_readsOrder pc = .ok (.return_, 1) → W p l e rmX10_readsOrder s m args below meth c H locs 0 0 Qf (F0 m pc ls [])) : ∀ (q : qS) (x1 : Int32) (x2 : Int32) (z1 : Int32) (z2 : Int32) (H : Heap) (locs : List Loc) (ls : Array Slot), wX10_readsOrder_b92 k q x1 x2 z1 z2 → va_P G.1 vwCl (wM G a q ++ R) H → va_D A (wM G a q ++ R) → va_S A s.heap H locs → lv_has ls 4 [(0, .ref (a 0)), (1, .int x1), (2, .int x2)] → W p l e rmX10_readsOrder s m args below meth c H locs 0 0 Qf (F0 m 92 ls [.int z2, .int z1, .ref (a 0)]) := by
  intro q x1 x2 z1 z2 H locs ls h hP hD hS hl
  unfold wX10_readsOrder_b92 at h
  refine lv_iadd hx hb dX10_readsOrder_92 ?_
  refine lv_topi (fun y20 ey20 => ?_)
  have h := h y20 ey20
  refine va_put (D := G.1) (ci := 10) (v := .int y20) (ty := .int) (C := RX10) (T := TX10) (N := 15) hx hb hts iX10_readsOrder_X10 tyX10 tyX10_ok nmX10 hown hKn.k hP hD hS 0 rfl rfl 11 (by decide) (hts _ lX10_readsOrder_f156) (fun _ h9 => h9) rfl (by decide +kernel) rfl rfl (Nat.le_of_ble_eq_true rfl) dX10_readsOrder_93 (fun H locs hP hD hS => ?_)
  obtain ⟨q21, eq21⟩ : ∃ z : qS, z = up2 q 0 11 y20 := ⟨_, rfl⟩
  have hP : va_P G.1 vwCl (wM G a q21 ++ R) H := by rw [eq21]; exact hP
  have hD : va_D A (wM G a q21 ++ R) := by rw [eq21]; exact hD
  have h := h q21 eq21
  refine lv_aload_n hx hb dX10_readsOrder_96 rfl (lv_at hl 0 rfl) ?_
  refine va_get (D := G.1) (ci := 10) (v := .ref (a 13)) (C := RX10) (T := TX10) (N := 15) hx hb hts iX10_readsOrder_X10 hown hKn.k hP 0 rfl rfl 13 (by decide) (hts _ lX10_readsOrder_f29) (fun _ h9 => h9) rfl dX10_readsOrder_97 ?_
  refine lv_iload_n hx hb dX10_readsOrder_100 rfl (lv_at hl 1 rfl) ?_
  refine lv_iload_n hx hb dX10_readsOrder_101 rfl (lv_at hl 2 rfl) ?_
  obtain ⟨hin, h⟩ := h
  refine va_iast hx hb hKn.k hP hD hS 7 0 rfl rfl hin dX10_readsOrder_102 (fun H locs hP hD hS => ?_)
  obtain ⟨q22, eq22⟩ : ∃ z : qS, z = up2 q21 13 (Int32.toNatClampNeg x1) x2 := ⟨_, rfl⟩
  have hP : va_P G.1 vwCl (wM G a q22 ++ R) H := by rw [eq22]; exact hP
  have hD : va_D A (wM G a q22 ++ R) := by rw [eq22]; exact hD
  have h := h q22 eq22
  refine lv_iload_n hx hb dX10_readsOrder_103 rfl (lv_at hl 2 rfl) ?_
  refine lv_bipush (v := (103 : Int32)) hx hb dX10_readsOrder_104 (by decide) ?_
  refine lv_icmp_ne (tgt := 124) hx hb dX10_readsOrder_106 (by decide) (fun c1 => ?_) (fun c1 => ?_)
  · have h := h.1 c1
    refine lv_iload_n hx hb dX10_readsOrder_124 rfl (lv_at hl 2 rfl) ?_
    refine lv_bipush (v := (109 : Int32)) hx hb dX10_readsOrder_125 (by decide) ?_
    refine lv_icmp_eq (tgt := 142) hx hb dX10_readsOrder_127 (by decide) (fun c1 => ?_) (fun c1 => ?_)
    · have h := h.1 c1
      exact kX10_readsOrder_b142 hx hb hml hown hts hA hKn hret q22 x1 x2 _ _ _ h hP hD hS (lv_sub hl [0, 1, 2] rfl)
    · have h := h.2 c1
      refine lv_aload_n hx hb dX10_readsOrder_130 rfl (lv_at hl 0 rfl) ?_
      refine va_get (D := G.1) (ci := 10) (v := .ref (a 13)) (C := RX10) (T := TX10) (N := 15) hx hb hts iX10_readsOrder_X10 hown hKn.k hP 0 rfl rfl 13 (by decide) (hts _ lX10_readsOrder_f29) (fun _ h9 => h9) rfl dX10_readsOrder_131 ?_
      refine lv_iload_n hx hb dX10_readsOrder_134 rfl (lv_at hl 1 rfl) ?_
      refine lv_iconst (v := (1 : Int32)) hx hb dX10_readsOrder_135 (by decide) ?_
      refine lv_iadd hx hb dX10_readsOrder_136 ?_
      refine lv_aload_n hx hb dX10_readsOrder_137 rfl (lv_at hl 0 rfl) ?_
      refine qc_vi (As := []) (rest := [.int (x1 + (1 : Int32)), .ref (a 13)]) ⟨hx, hb, hml, hown, hts⟩ (mX10_number l G _ _ a q22 _ ) (cwV 0 hts gX10_readsOrder_X10_number rfl rfl rfl (by decide +kernel) ⟨Nat.le_of_ble_eq_true rfl, Nat.le_of_ble_eq_true rfl⟩) hP hD hS hA hKn 0 10 rfl rfl rfl h rfl hl.1 rfl (Nat.le_of_ble_eq_true rfl) dX10_readsOrder_138 ⟨Nat.zero_le _, Nat.zero_le _⟩ (fun r23 q24 H locs h hP hD hS => ?_)
      have hP : va_P G.1 vwCl (wM G a q24 ++ R) H := hP
      have hD : va_D A (wM G a q24 ++ R) := hD
      obtain ⟨hin, h⟩ := h
      refine va_iast hx hb hKn.k hP hD hS 7 0 rfl rfl hin dX10_readsOrder_141 (fun H locs hP hD hS => ?_)
      obtain ⟨q25, eq25⟩ : ∃ z : qS, z = up2 q24 13 (Int32.toNatClampNeg (x1 + (1 : Int32))) r23 := ⟨_, rfl⟩
      have hP : va_P G.1 vwCl (wM G a q25 ++ R) H := by rw [eq25]; exact hP
      have hD : va_D A (wM G a q25 ++ R) := by rw [eq25]; exact hD
      have h := h q25 eq25
      exact kX10_readsOrder_b142 hx hb hml hown hts hA hKn hret q25 x1 x2 _ _ _ h hP hD hS (lv_sub hl [0, 1, 2] rfl)
  · have h := h.2 c1
    refine lv_aload_n hx hb dX10_readsOrder_109 rfl (lv_at hl 0 rfl) ?_
    refine va_get (D := G.1) (ci := 10) (v := .ref (a 13)) (C := RX10) (T := TX10) (N := 15) hx hb hts iX10_readsOrder_X10 hown hKn.k hP 0 rfl rfl 13 (by decide) (hts _ lX10_readsOrder_f29) (fun _ h9 => h9) rfl dX10_readsOrder_110 ?_
    refine lv_iload_n hx hb dX10_readsOrder_113 rfl (lv_at hl 1 rfl) ?_
    refine lv_iconst (v := (1 : Int32)) hx hb dX10_readsOrder_114 (by decide) ?_
    refine lv_iadd hx hb dX10_readsOrder_115 ?_
    refine lv_aload_n hx hb dX10_readsOrder_116 rfl (lv_at hl 0 rfl) ?_
    refine qc_vi (As := []) (rest := [.int (x1 + (1 : Int32)), .ref (a 13)]) ⟨hx, hb, hml, hown, hts⟩ (mX10_digit l G _ _ a q22 _ ) (cwV 0 hts gX10_readsOrder_X10_digit rfl rfl rfl (by decide +kernel) ⟨Nat.le_of_ble_eq_true rfl, Nat.le_of_ble_eq_true rfl⟩) hP hD hS hA hKn 0 10 rfl rfl rfl h rfl hl.1 rfl (Nat.le_of_ble_eq_true rfl) dX10_readsOrder_117 ⟨Nat.zero_le _, Nat.zero_le _⟩ (fun r26 q27 H locs h hP hD hS => ?_)
    have hP : va_P G.1 vwCl (wM G a q27 ++ R) H := hP
    have hD : va_D A (wM G a q27 ++ R) := hD
    obtain ⟨hin, h⟩ := h
    refine va_iast hx hb hKn.k hP hD hS 7 0 rfl rfl hin dX10_readsOrder_120 (fun H locs hP hD hS => ?_)
    obtain ⟨q28, eq28⟩ : ∃ z : qS, z = up2 q27 13 (Int32.toNatClampNeg (x1 + (1 : Int32))) r26 := ⟨_, rfl⟩
    have hP : va_P G.1 vwCl (wM G a q28 ++ R) H := by rw [eq28]; exact hP
    have hD : va_D A (wM G a q28 ++ R) := by rw [eq28]; exact hD
    have h := h q28 eq28
    refine lv_goto (tgt := 142) hx hb dX10_readsOrder_121 (by decide) ?_
    exact kX10_readsOrder_b142 hx hb hml hown hts hA hKn hret q28 x1 x2 _ _ _ h hP hD hS (lv_sub hl [0, 1, 2] rfl)
set_option maxHeartbeats 4000000 in
set_option maxRecDepth 100000 in
theorem kX10_readsOrder_b72 {p : Program} {l : Launch} {e : Env} {s : State} {m : MethodId} {args : Array Value} {below : List Frame} {meth : Method} {c : Code} {G : qG} {A : Nat → Prop} {Qf : State → Prop} {R : va_W} {a : Nat → Nat} {k : qS → Prop} (hx : p.tables.exec = Jvm.exec) (hb : c.code = cX10_readsOrder) (hml : c.maxLocals = 4) (hown : s.vm.findClass RX10 = some m.cls) (hts : ∀ w ∈ wsX10_readsOrder, w.before args s = true) (hA : ∀ q : Nat, s.heap.size ≤ q → A q) (hKn : qKn G A s s.heap) (hret : ∀ (q : qS) (H : Heap) (locs : List Loc) (ls : Array Slot) (pc : Nat), k q → va_P G.1 vwCl (wM G a q ++ R) H → va_D A (wM G a q ++ R) → va_S A s.heap H locs → decode cX10_readsOrder pc = .ok (.return_, 1) → W p l e rmX10_readsOrder s m args below meth c H locs 0 0 Qf (F0 m pc ls [])) : ∀ (q : qS) (x1 : Int32) (x2 : Int32) (z1 : Int32) (H : Heap) (locs : List Loc) (ls : Array Slot), wX10_readsOrder_b72 k q x1 x2 z1 → va_P G.1 vwCl (wM G a q ++ R) H → va_D A (wM G a q ++ R) → va_S A s.heap H locs → lv_has ls 4 [(0, .ref (a 0)), (1, .int x1), (2, .int x2)] → W p l e rmX10_readsOrder s m args below meth c H locs 0 0 Qf (F0 m 72 ls [.int z1, .ref (a 0)]) := by
  intro q x1 x2 z1 H locs ls h hP hD hS hl
  unfold wX10_readsOrder_b72 at h
  obtain ⟨hn1, hf1, h⟩ := h
  refine va_put (D := G.1) (ci := 10) (v := .int z1) (ty := .boolean) (C := RX10) (T := TX10) (N := 15) hx hb hts iX10_readsOrder_X10 tyX10 tyX10_ok nmX10 hown hKn.k hP hD hS 0 rfl rfl 12 (by decide) (hts _ lX10_readsOrder_f159) (fun _ h9 => h9) rfl (by decide +kernel) hn1 hf1 (Nat.le_of_ble_eq_true rfl) dX10_readsOrder_72 (fun H locs hP hD hS => ?_)
  obtain ⟨q29, eq29⟩ : ∃ z : qS, z = up2 q 0 12 z1 := ⟨_, rfl⟩
  have hP : va_P G.1 vwCl (wM G a q29 ++ R) H := by rw [eq29]; exact hP
  have hD : va_D A (wM G a q29 ++ R) := by rw [eq29]; exact hD
  have h := h q29 eq29
  refine lv_aload_n hx hb dX10_readsOrder_75 rfl (lv_at hl 0 rfl) ?_
  refine lv_dup hx hb dX10_readsOrder_76 rfl ?_
  refine va_get (D := G.1) (ci := 10) (v := .int (q29 0 11)) (C := RX10) (T := TX10) (N := 15) hx hb hts iX10_readsOrder_X10 hown hKn.k hP 0 rfl rfl 11 (by decide) (hts _ lX10_readsOrder_f156) (fun _ h9 => h9) rfl dX10_readsOrder_77 ?_
  refine lv_aload_n hx hb dX10_readsOrder_80 rfl (lv_at hl 0 rfl) ?_
  refine va_get (D := G.1) (ci := 10) (v := .int (q29 0 12)) (C := RX10) (T := TX10) (N := 15) hx hb hts iX10_readsOrder_X10 hown hKn.k hP 0 rfl rfl 12 (by decide) (hts _ lX10_readsOrder_f159) (fun _ h9 => h9) rfl dX10_readsOrder_81 ?_
  refine lv_if_eq (tgt := 91) hx hb dX10_readsOrder_84 (by decide) (fun c1 => ?_) (fun c1 => ?_)
  · have h := h.1 c1
    refine lv_iconst (v := (0 : Int32)) hx hb dX10_readsOrder_91 (by decide) ?_
    exact kX10_readsOrder_b92 hx hb hml hown hts hA hKn hret q29 x1 x2 (q29 0 11) (0 : Int32) _ _ _ h hP hD hS (lv_sub hl [0, 1, 2] rfl)
  · have h := h.2 c1
    refine lv_iconst (v := (1 : Int32)) hx hb dX10_readsOrder_87 (by decide) ?_
    refine lv_goto (tgt := 92) hx hb dX10_readsOrder_88 (by decide) ?_
    exact kX10_readsOrder_b92 hx hb hml hown hts hA hKn hret q29 x1 x2 (q29 0 11) (1 : Int32) _ _ _ h hP hD hS (lv_sub hl [0, 1, 2] rfl)
set_option maxHeartbeats 4000000 in
set_option maxRecDepth 100000 in
theorem kX10_readsOrder_b71 {p : Program} {l : Launch} {e : Env} {s : State} {m : MethodId} {args : Array Value} {below : List Frame} {meth : Method} {c : Code} {G : qG} {A : Nat → Prop} {Qf : State → Prop} {R : va_W} {a : Nat → Nat} {k : qS → Prop} (hx : p.tables.exec = Jvm.exec) (hb : c.code = cX10_readsOrder) (hml : c.maxLocals = 4) (hown : s.vm.findClass RX10 = some m.cls) (hts : ∀ w ∈ wsX10_readsOrder, w.before args s = true) (hA : ∀ q : Nat, s.heap.size ≤ q → A q) (hKn : qKn G A s s.heap) (hret : ∀ (q : qS) (H : Heap) (locs : List Loc) (ls : Array Slot) (pc : Nat), k q → va_P G.1 vwCl (wM G a q ++ R) H → va_D A (wM G a q ++ R) → va_S A s.heap H locs → decode cX10_readsOrder pc = .ok (.return_, 1) → W p l e rmX10_readsOrder s m args below meth c H locs 0 0 Qf (F0 m pc ls [])) : ∀ (q : qS) (x1 : Int32) (x2 : Int32) (H : Heap) (locs : List Loc) (ls : Array Slot), wX10_readsOrder_b71 k q x1 x2 → va_P G.1 vwCl (wM G a q ++ R) H → va_D A (wM G a q ++ R) → va_S A s.heap H locs → lv_has ls 4 [(0, .ref (a 0)), (1, .int x1), (2, .int x2)] → W p l e rmX10_readsOrder s m args below meth c H locs 0 0 Qf (F0 m 71 ls [.ref (a 0)]) := by
  intro q x1 x2 H locs ls h hP hD hS hl
  unfold wX10_readsOrder_b71 at h
  refine lv_iconst (v := (0 : Int32)) hx hb dX10_readsOrder_71 (by decide) ?_
  exact kX10_readsOrder_b72 hx hb hml hown hts hA hKn hret q x1 x2 (0 : Int32) _ _ _ h hP hD hS (lv_sub hl [0, 1, 2] rfl)
set_option maxHeartbeats 4000000 in
set_option maxRecDepth 100000 in
theorem kX10_readsOrder_b54 {p : Program} {l : Launch} {e : Env} {s : State} {m : MethodId} {args : Array Value} {below : List Frame} {meth : Method} {c : Code} {G : qG} {A : Nat → Prop} {Qf : State → Prop} {R : va_W} {a : Nat → Nat} {k : qS → Prop} (hx : p.tables.exec = Jvm.exec) (hb : c.code = cX10_readsOrder) (hml : c.maxLocals = 4) (hown : s.vm.findClass RX10 = some m.cls) (hts : ∀ w ∈ wsX10_readsOrder, w.before args s = true) (hA : ∀ q : Nat, s.heap.size ≤ q → A q) (hKn : qKn G A s s.heap) (hret : ∀ (q : qS) (H : Heap) (locs : List Loc) (ls : Array Slot) (pc : Nat), k q → va_P G.1 vwCl (wM G a q ++ R) H → va_D A (wM G a q ++ R) → va_S A s.heap H locs → decode cX10_readsOrder pc = .ok (.return_, 1) → W p l e rmX10_readsOrder s m args below meth c H locs 0 0 Qf (F0 m pc ls [])) : ∀ (q : qS) (x1 : Int32) (x2 : Int32) (z0 : Int32) (H : Heap) (locs : List Loc) (ls : Array Slot), wX10_readsOrder_b54 k q x1 x2 z0 → va_P G.1 vwCl (wM G a q ++ R) H → va_D A (wM G a q ++ R) → va_S A s.heap H locs → lv_has ls 4 [(0, .ref (a 0)), (1, .int x1), (2, .int x2)] → W p l e rmX10_readsOrder s m args below meth c H locs 0 0 Qf (F0 m 54 ls [.int z0]) := by
  intro q x1 x2 z0 H locs ls h hP hD hS hl
  unfold wX10_readsOrder_b54 at h
  refine lv_istore_n (lv' := [(3, .int z0), (0, .ref (a 0)), (1, .int x1), (2, .int x2)]) hx hb dX10_readsOrder_54 rfl hl (by decide) rfl (fun ls hl => ?_)
  refine lv_aload_n hx hb dX10_readsOrder_55 rfl (lv_at hl 1 rfl) ?_
  refine lv_aload_n hx hb dX10_readsOrder_56 rfl (lv_at hl 1 rfl) ?_
  refine va_get (D := G.1) (ci := 10) (v := .int (q 0 12)) (C := RX10) (T := TX10) (N := 15) hx hb hts iX10_readsOrder_X10 hown hKn.k hP 0 rfl rfl 12 (by decide) (hts _ lX10_readsOrder_f159) (fun _ h9 => h9) rfl dX10_readsOrder_57 ?_
  refine lv_if_eq (tgt := 71) hx hb dX10_readsOrder_60 (by decide) (fun c1 => ?_) (fun c1 => ?_)
  · have h := h.1 c1
    exact kX10_readsOrder_b71 hx hb hml hown hts hA hKn hret q x1 x2 _ _ _ h hP hD hS (lv_sub hl [1, 2, 3] rfl)
  · have h := h.2 c1
    refine lv_iload_n hx hb dX10_readsOrder_63 rfl (lv_at hl 0 rfl) ?_
    refine lv_if_eq (tgt := 71) hx hb dX10_readsOrder_64 (by decide) (fun c1 => ?_) (fun c1 => ?_)
    · have h := h.1 c1
      exact kX10_readsOrder_b71 hx hb hml hown hts hA hKn hret q x1 x2 _ _ _ h hP hD hS (lv_sub hl [1, 2, 3] rfl)
    · have h := h.2 c1
      refine lv_iconst (v := (1 : Int32)) hx hb dX10_readsOrder_67 (by decide) ?_
      refine lv_goto (tgt := 72) hx hb dX10_readsOrder_68 (by decide) ?_
      exact kX10_readsOrder_b72 hx hb hml hown hts hA hKn hret q x1 x2 (1 : Int32) _ _ _ h hP hD hS (lv_sub hl [1, 2, 3] rfl)
set_option maxHeartbeats 4000000 in
set_option maxRecDepth 100000 in
theorem kX10_readsOrder_b49 {p : Program} {l : Launch} {e : Env} {s : State} {m : MethodId} {args : Array Value} {below : List Frame} {meth : Method} {c : Code} {G : qG} {A : Nat → Prop} {Qf : State → Prop} {R : va_W} {a : Nat → Nat} {k : qS → Prop} (hx : p.tables.exec = Jvm.exec) (hb : c.code = cX10_readsOrder) (hml : c.maxLocals = 4) (hown : s.vm.findClass RX10 = some m.cls) (hts : ∀ w ∈ wsX10_readsOrder, w.before args s = true) (hA : ∀ q : Nat, s.heap.size ≤ q → A q) (hKn : qKn G A s s.heap) (hret : ∀ (q : qS) (H : Heap) (locs : List Loc) (ls : Array Slot) (pc : Nat), k q → va_P G.1 vwCl (wM G a q ++ R) H → va_D A (wM G a q ++ R) → va_S A s.heap H locs → decode cX10_readsOrder pc = .ok (.return_, 1) → W p l e rmX10_readsOrder s m args below meth c H locs 0 0 Qf (F0 m pc ls [])) : ∀ (q : qS) (x1 : Int32) (x2 : Int32) (H : Heap) (locs : List Loc) (ls : Array Slot), wX10_readsOrder_b49 k q x1 x2 → va_P G.1 vwCl (wM G a q ++ R) H → va_D A (wM G a q ++ R) → va_S A s.heap H locs → lv_has ls 4 [(0, .ref (a 0)), (1, .int x1), (2, .int x2)] → W p l e rmX10_readsOrder s m args below meth c H locs 0 0 Qf (F0 m 49 ls []) := by
  intro q x1 x2 H locs ls h hP hD hS hl
  unfold wX10_readsOrder_b49 at h
  refine lv_iconst (v := (1 : Int32)) hx hb dX10_readsOrder_49 (by decide) ?_
  refine lv_goto (tgt := 54) hx hb dX10_readsOrder_50 (by decide) ?_
  exact kX10_readsOrder_b54 hx hb hml hown hts hA hKn hret q x1 x2 (1 : Int32) _ _ _ h hP hD hS (lv_sub hl [0, 1, 2] rfl)
set_option maxHeartbeats 4000000 in
set_option maxRecDepth 100000 in
theorem mX10_readsOrder (l : Launch) (G : qG) (k : qS → Prop) (R : va_W) (a : Nat → Nat) (q : qS) (sz : Nat) : Met l yX10_readsOrder wsX10_readsOrder rmX10_readsOrder (qPc G [.ref (a 0)] (wM G a q ++ R) sz (wX10_readsOrder k q)) (qQv G (wM G a q ++ R) sz (fun (u : qS) => k u) (fun (u : qS) => wM G a u ++ R)) 0 0 (va_A (wM G a q ++ R) sz) := by
  refine Met.ofW (cc := cX10_readsOrder) (maxL := 4) (ret := none) (by decide) rfl ?_
  intro p e s m args below meth c s₁ B hml hv
  obtain ⟨rfl, hsz, hP, hD0, hKn0, h⟩ := hv
  have hx := B.exec
  have hb := B.bytes
  have hr := B.returns
  have hts := atoms_spec (ws := wsX10_readsOrder) B.pre
  have hown : s.vm.findClass RX10 = some m.cls := findClass_of_methodNamed B.named
  have hlocks := B.notSynchronized
  subst hsz
  have hD := hD0.self (sz := s.heap.size)
  generalize hAe : va_A (wM G a q ++ R) s.heap.size = A at hD hKn0 ⊢
  have hA : ∀ q : Nat, s.heap.size ≤ q → A q := fun q h => by rw [← hAe]; exact Or.inr h
  have hKn : qKn G A s s.heap := hKn0
  have hS : va_S A s.heap s.heap [] := va_S.rf
  have hret : ∀ (q' : qS) (H : Heap) (locs : List Loc) (ls : Array Slot) (pc : Nat), k q' → va_P G.1 vwCl (wM G a q' ++ R) H → va_D A (wM G a q' ++ R) → va_S A s.heap H locs → decode cX10_readsOrder pc = .ok (.return_, 1) → W p l e rmX10_readsOrder s m #[.ref (a 0)] below meth c H locs 0 0 (MQ below (qQv G (wM G a q ++ R) s.heap.size (fun (u : qS) => k u) (fun (u : qS) => wM G a u ++ R)) #[.ref (a 0)] s 0 0 A) (F0 m pc ls []) := fun q' H locs ls pc hk hP hD hS hd => W.vret hx hb hr (fun t ht hW => q_rv (u := (q' : qS)) hAe hk hP hD hS ht) hS.2.2 hd
  have hl := lv_entry ([.ref (a 0)]) (n := 4) (Nat.le_of_ble_eq_true rfl)
  rw [lg_entry_eq]
  generalize (lg_sl ([.ref (a 0)]) ++ List.replicate (4 - (lg_sl ([.ref (a 0)])).length) Slot.unset).toArray = ls at hl ⊢
  have hl : lv_has ls 4 [(0, .ref (a 0))] := hl
  unfold wX10_readsOrder at h
  show W p l e rmX10_readsOrder s m #[.ref (a 0)] below meth c s.heap [] 0 0 _ _
  refine lv_bipush (v := (7 : Int32)) hx hb dX10_readsOrder_0 (by decide) ?_
  refine lv_aload_n hx hb dX10_readsOrder_2 rfl (lv_at hl 0 rfl) ?_
  refine va_get (D := G.1) (ci := 10) (v := .int (q 0 14)) (C := RX10) (T := TX10) (N := 15) hx hb hts iX10_readsOrder_X10 hown hKn.k hP 0 rfl rfl 14 (by decide) (hts _ lX10_readsOrder_f169) (fun _ h9 => h9) rfl dX10_readsOrder_3 ?_
  refine lv_imul hx hb dX10_readsOrder_6 ?_
  refine lv_topi (fun y30 ey30 => ?_)
  have h := h y30 ey30
  refine lv_istore_n (lv' := [(1, .int y30), (0, .ref (a 0))]) hx hb dX10_readsOrder_7 rfl hl (by decide) rfl (fun ls hl => ?_)
  refine lv_aload_n hx hb dX10_readsOrder_8 rfl (lv_at hl 1 rfl) ?_
  refine qc_vi (As := []) (rest := []) ⟨hx, hb, hml, hown, hts⟩ (mX10_sign l G _ _ a q _ ) (cwV 0 hts gX10_readsOrder_X10_sign rfl rfl rfl (by decide +kernel) ⟨Nat.le_of_ble_eq_true rfl, Nat.le_of_ble_eq_true rfl⟩) hP hD hS hA hKn 0 10 rfl rfl rfl h rfl hl.1 rfl (Nat.le_of_ble_eq_true rfl) dX10_readsOrder_9 ⟨Nat.zero_le _, Nat.zero_le _⟩ (fun r31 q32 H locs h hP hD hS => ?_)
  have hP : va_P G.1 vwCl (wM G a q32 ++ R) H := hP
  have hD : va_D A (wM G a q32 ++ R) := hD
  refine lv_istore_n (lv' := [(2, .int r31), (1, .int y30), (0, .ref (a 0))]) hx hb dX10_readsOrder_12 rfl hl (by decide) rfl (fun ls hl => ?_)
  refine lv_iload_n hx hb dX10_readsOrder_13 rfl (lv_at hl 0 rfl) ?_
  refine lv_bipush (v := (102 : Int32)) hx hb dX10_readsOrder_14 (by decide) ?_
  refine lv_icmp_eq (tgt := 49) hx hb dX10_readsOrder_16 (by decide) (fun c1 => ?_) (fun c1 => ?_)
  · have h := h.1 c1
    exact kX10_readsOrder_b49 hx hb hml hown hts hA hKn hret q32 y30 r31 _ _ _ h hP hD hS (lv_sub hl [2, 1, 0] rfl)
  · have h := h.2 c1
    refine lv_iload_n hx hb dX10_readsOrder_19 rfl (lv_at hl 0 rfl) ?_
    refine lv_bipush (v := (99 : Int32)) hx hb dX10_readsOrder_20 (by decide) ?_
    refine lv_icmp_eq (tgt := 49) hx hb dX10_readsOrder_22 (by decide) (fun c1 => ?_) (fun c1 => ?_)
    · have h := h.1 c1
      exact kX10_readsOrder_b49 hx hb hml hown hts hA hKn hret q32 y30 r31 _ _ _ h hP hD hS (lv_sub hl [2, 1, 0] rfl)
    · have h := h.2 c1
      refine lv_iload_n hx hb dX10_readsOrder_25 rfl (lv_at hl 0 rfl) ?_
      refine lv_bipush (v := (103 : Int32)) hx hb dX10_readsOrder_26 (by decide) ?_
      refine lv_icmp_eq (tgt := 49) hx hb dX10_readsOrder_28 (by decide) (fun c1 => ?_) (fun c1 => ?_)
      · have h := h.1 c1
        exact kX10_readsOrder_b49 hx hb hml hown hts hA hKn hret q32 y30 r31 _ _ _ h hP hD hS (lv_sub hl [2, 1, 0] rfl)
      · have h := h.2 c1
        refine lv_iload_n hx hb dX10_readsOrder_31 rfl (lv_at hl 0 rfl) ?_
        refine lv_bipush (v := (100 : Int32)) hx hb dX10_readsOrder_32 (by decide) ?_
        refine lv_icmp_eq (tgt := 49) hx hb dX10_readsOrder_34 (by decide) (fun c1 => ?_) (fun c1 => ?_)
        · have h := h.1 c1
          exact kX10_readsOrder_b49 hx hb hml hown hts hA hKn hret q32 y30 r31 _ _ _ h hP hD hS (lv_sub hl [2, 1, 0] rfl)
        · have h := h.2 c1
          refine lv_iload_n hx hb dX10_readsOrder_37 rfl (lv_at hl 0 rfl) ?_
          refine lv_bipush (v := (109 : Int32)) hx hb dX10_readsOrder_38 (by decide) ?_
          refine lv_icmp_eq (tgt := 49) hx hb dX10_readsOrder_40 (by decide) (fun c1 => ?_) (fun c1 => ?_)
          · have h := h.1 c1
            exact kX10_readsOrder_b49 hx hb hml hown hts hA hKn hret q32 y30 r31 _ _ _ h hP hD hS (lv_sub hl [2, 1, 0] rfl)
          · have h := h.2 c1
            refine lv_iload_n hx hb dX10_readsOrder_43 rfl (lv_at hl 0 rfl) ?_
            refine lv_bipush (v := (120 : Int32)) hx hb dX10_readsOrder_44 (by decide) ?_
            refine lv_icmp_ne (tgt := 53) hx hb dX10_readsOrder_46 (by decide) (fun c1 => ?_) (fun c1 => ?_)
            · have h := h.1 c1
              refine lv_iconst (v := (0 : Int32)) hx hb dX10_readsOrder_53 (by decide) ?_
              exact kX10_readsOrder_b54 hx hb hml hown hts hA hKn hret q32 y30 r31 (0 : Int32) _ _ _ h hP hD hS (lv_sub hl [2, 1, 0] rfl)
            · have h := h.2 c1
              exact kX10_readsOrder_b49 hx hb hml hown hts hA hKn hret q32 y30 r31 _ _ _ h hP hD hS (lv_sub hl [2, 1, 0] rfl)
