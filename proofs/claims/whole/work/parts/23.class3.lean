abbrev rmX6_passDays : Room := { frames := 5, cells := 0, slots := 0, locals := 115 }
theorem lX6_passDays_f18 : Cond.fieldLink RX6 18 "QuarryBlends$Quarry" "settings" "[I" ∈ wsX6_passDays := by decide +kernel
theorem lX6_passDays_f75 : Cond.fieldLink RX6 75 "QuarryBlends$Quarry" "hours" "I" ∈ wsX6_passDays := by decide +kernel
theorem lX6_passDays_nX9 : Cond.initialized RX9 ∈ wsX6_passDays := by decide +kernel
theorem lX6_passDays_sX9_within : Cond.static yX9_within ∈ wsX6_passDays := by decide +kernel
theorem iX6_passDays_X6 : ∀ w ∈ wsX60, w ∈ wsX6_passDays := by decide +kernel
set_option maxHeartbeats 4000000 in
set_option maxRecDepth 100000 in
theorem mX6_passDays (l : Launch) (G : qG) (k : Int32 → qS → Prop) (R : va_W) (a : Nat → Nat) (q : qS) (sz : Nat) (p0 : Int32) : Met l yX6_passDays wsX6_passDays rmX6_passDays (qPc G [.ref (a 0), .int p0] (wQ G a q ++ R) sz (wX6_passDays k q p0)) (qQi G (wQ G a q ++ R) sz (fun (r : Int32) (u : qS) => k r u) (fun (u : qS) => wQ G a u ++ R)) 0 0 (va_A (wQ G a q ++ R) sz) := by
  refine Met.ofW (cc := cX6_passDays) (maxL := 2) (ret := (some .int)) (by decide) rfl ?_
  intro p e s m args below meth c s₁ B hml hv
  obtain ⟨rfl, hsz, hP, hD0, hKn0, h⟩ := hv
  have hx := B.exec
  have hb := B.bytes
  have hr := B.returns
  have hts := atoms_spec (ws := wsX6_passDays) B.pre
  have hown : s.vm.findClass RX6 = some m.cls := findClass_of_methodNamed B.named
  have hlocks := B.notSynchronized
  subst hsz
  have hD := hD0.self (sz := s.heap.size)
  generalize hAe : va_A (wQ G a q ++ R) s.heap.size = A at hD hKn0 ⊢
  have hA : ∀ q : Nat, s.heap.size ≤ q → A q := fun q h => by rw [← hAe]; exact Or.inr h
  have hKn : qKn G A s s.heap := hKn0
  have hS : va_S A s.heap s.heap [] := va_S.rf
  have hret : ∀ (r : Int32) (q' : qS) (H : Heap) (locs : List Loc) (ls : Array Slot) (pc : Nat), k r q' → va_P G.1 vwCl (wQ G a q' ++ R) H → va_D A (wQ G a q' ++ R) → va_S A s.heap H locs → decode cX6_passDays pc = .ok (.ireturn, 1) → W p l e rmX6_passDays s m #[.ref (a 0), .int p0] below meth c H locs 0 0 (MQ below (qQi G (wQ G a q ++ R) s.heap.size (fun (r : Int32) (u : qS) => k r u) (fun (u : qS) => wQ G a u ++ R)) #[.ref (a 0), .int p0] s 0 0 A) (F0 m pc ls [.int r]) := fun r q' H locs ls pc hk hP hD hS hd => W.iret hx hb hr (fun t ht hW => q_ri (u := (q' : qS)) hAe hk hP hD hS ht) hS.2.2 hd
  have hl := lv_entry ([.ref (a 0), .int p0]) (n := 2) (Nat.le_of_ble_eq_true rfl)
  rw [lg_entry_eq]
  generalize (lg_sl ([.ref (a 0), .int p0]) ++ List.replicate (2 - (lg_sl ([.ref (a 0), .int p0])).length) Slot.unset).toArray = ls at hl ⊢
  have hl : lv_has ls 2 [(0, .ref (a 0)), (1, .int p0)] := hl
  unfold wX6_passDays at h
  show W p l e rmX6_passDays s m #[.ref (a 0), .int p0] below meth c s.heap [] 0 0 _ _
  refine lv_iload_n hx hb dX6_passDays_0 rfl (lv_at hl 1 rfl) ?_
  refine lv_iconst (v := (1 : Int32)) hx hb dX6_passDays_1 (by decide) ?_
  refine lv_bipush (v := (30 : Int32)) hx hb dX6_passDays_2 (by decide) ?_
  refine qc_ni (As := [.int p0, .int (1 : Int32), .int (30 : Int32)]) (rest := []) ⟨hx, hb, hml, hown, hts⟩ (mX9_within l G _ _ _ p0 (1 : Int32) (30 : Int32)) ⟨va_cnB 3 hts gX6_passDays_X9_within_n88 rfl rfl rfl (hKn.2.1 _ (List.mem_of_getElem? (i := 14) rfl)) (hts _ lX6_passDays_nX9) (by decide +kernel) ⟨Nat.le_of_ble_eq_true rfl, Nat.le_of_ble_eq_true rfl⟩, (hts _ lX6_passDays_sX9_within), trivial⟩ hP hD hS hA hKn h rfl hl.1 rfl (Nat.le_of_ble_eq_true rfl) dX6_passDays_4 ⟨Nat.zero_le _, Nat.zero_le _⟩ (fun r1 _ H locs h hP hD hS => ?_)
  have hP : va_P G.1 vwCl (wQ G a q ++ R) H := hP
  have hD : va_D A (wQ G a q ++ R) := hD
  refine lv_if_ne (tgt := 13) hx hb dX6_passDays_7 (by decide) (fun c1 => ?_) (fun c1 => ?_)
  · have h := h.1 c1
    refine lv_aload_n hx hb dX6_passDays_13 rfl (lv_at hl 0 rfl) ?_
    refine va_get (D := G.1) (ci := 6) (v := .int (q 0 0)) (C := RX6) (T := TX6) (N := 10) hx hb hts iX6_passDays_X6 hown hKn.k hP 0 rfl rfl 6 (by decide) (hts _ lX6_passDays_f75) (fun _ h9 => h9) rfl dX6_passDays_14 ?_
    refine lv_iload_n hx hb dX6_passDays_17 rfl (lv_at hl 1 rfl) ?_
    refine lv_aload_n hx hb dX6_passDays_18 rfl (lv_at hl 0 rfl) ?_
    refine va_get (D := G.1) (ci := 6) (v := .ref (a 1)) (C := RX6) (T := TX6) (N := 10) hx hb hts iX6_passDays_X6 hown hKn.k hP 0 rfl rfl 0 (by decide) (hts _ lX6_passDays_f18) (fun _ h9 => h9) rfl dX6_passDays_19 ?_
    refine lv_iconst (v := (2 : Int32)) hx hb dX6_passDays_22 (by decide) ?_
    refine va_iald hx hb hKn.k hP 1 0 rfl rfl (by unfold vp_in; decide) dX6_passDays_23 ?_
    refine lv_imul hx hb dX6_passDays_24 ?_
    refine lv_iadd hx hb dX6_passDays_25 ?_
    refine lv_sipush (v := (9999 : Int32)) hx hb dX6_passDays_26 (by decide) ?_
    refine lv_icmp_le (tgt := 35) hx hb dX6_passDays_29 (by decide) (fun c1 => ?_) (fun c1 => ?_)
    · have h := h.1 c1
      refine lv_aload_n hx hb dX6_passDays_35 rfl (lv_at hl 0 rfl) ?_
      refine lv_iload_n hx hb dX6_passDays_36 rfl (lv_at hl 1 rfl) ?_
      refine lv_iconst (v := (0 : Int32)) hx hb dX6_passDays_37 (by decide) ?_
      refine qc_vi (As := [.int p0, .int (0 : Int32)]) (rest := []) ⟨hx, hb, hml, hown, hts⟩ (mX6_runDays l G _ _ a q _ p0 (0 : Int32)) (cwV 2 hts gX6_passDays_X6_runDays rfl rfl rfl (by decide +kernel) ⟨Nat.le_of_ble_eq_true rfl, Nat.le_of_ble_eq_true rfl⟩) hP hD hS hA hKn 0 6 rfl rfl rfl h rfl hl.1 rfl (Nat.le_of_ble_eq_true rfl) dX6_passDays_38 ⟨Nat.zero_le _, Nat.zero_le _⟩ (fun r2 q3 H locs h hP hD hS => ?_)
      have hP : va_P G.1 vwCl (wQ G a q3 ++ R) H := hP
      have hD : va_D A (wQ G a q3 ++ R) := hD
      exact hret _ _ _ _ _ _ h hP hD hS dX6_passDays_41
    · have h := h.2 c1
      refine lv_bipush (v := (-5 : Int32)) hx hb dX6_passDays_32 (by decide) ?_
      exact hret _ _ _ _ _ _ h hP hD hS dX6_passDays_34
  · have h := h.2 c1
    refine lv_bipush (v := (-2 : Int32)) hx hb dX6_passDays_10 (by decide) ?_
    exact hret _ _ _ _ _ _ h hP hD hS dX6_passDays_12
abbrev rmX8_awayFrom : Room := { frames := 0, cells := 0, slots := 0, locals := 0 }
theorem lX8_awayFrom_f9 : Cond.fieldLink RX8 9 "QuarryBlends$Trucks" "from" "[I" ∈ wsX8_awayFrom := by decide +kernel
theorem iX8_awayFrom_X8 : ∀ w ∈ wsX80, w ∈ wsX8_awayFrom := by decide +kernel
set_option maxHeartbeats 4000000 in
set_option maxRecDepth 100000 in
theorem kX8_awayFrom_b23 {p : Program} {l : Launch} {e : Env} {s : State} {m : MethodId} {args : Array Value} {below : List Frame} {meth : Method} {c : Code} {G : qG} {A : Nat → Prop} {Qf : State → Prop} {R : va_W} {a : Nat → Nat} {k : Int32 → qS → Prop} (hx : p.tables.exec = Jvm.exec) (hb : c.code = cX8_awayFrom) (hml : c.maxLocals = 4) (hown : s.vm.findClass RX8 = some m.cls) (hts : ∀ w ∈ wsX8_awayFrom, w.before args s = true) (hA : ∀ q : Nat, s.heap.size ≤ q → A q) (hKn : qKn G A s s.heap) (hret : ∀ (r : Int32) (q : qS) (H : Heap) (locs : List Loc) (ls : Array Slot) (pc : Nat), k r q → va_P G.1 vwCl (wQ G a q ++ R) H → va_D A (wQ G a q ++ R) → va_S A s.heap H locs → decode cX8_awayFrom pc = .ok (.ireturn, 1) → W p l e rmX8_awayFrom s m args below meth c H locs 0 0 Qf (F0 m pc ls [.int r])) {kb4 : qS → Int32 → Int32 → Int32 → Prop} (hkb4 : ∀ (q : qS) (x1 : Int32) (x2 : Int32) (x3 : Int32) (H : Heap) (locs : List Loc) (ls : Array Slot), kb4 q x1 x2 x3 → va_P G.1 vwCl (wQ G a q ++ R) H → va_D A (wQ G a q ++ R) → va_S A s.heap H locs → lv_has ls 4 [(0, .ref (a 14)), (1, .int x1), (2, .int x2), (3, .int x3)] → W p l e rmX8_awayFrom s m args below meth c H locs 0 0 Qf (F0 m 4 ls [])) : ∀ (q : qS) (x1 : Int32) (x2 : Int32) (x3 : Int32) (H : Heap) (locs : List Loc) (ls : Array Slot), wX8_awayFrom_b23 k kb4 q x1 x2 x3 → va_P G.1 vwCl (wQ G a q ++ R) H → va_D A (wQ G a q ++ R) → va_S A s.heap H locs → lv_has ls 4 [(0, .ref (a 14)), (1, .int x1), (2, .int x2), (3, .int x3)] → W p l e rmX8_awayFrom s m args below meth c H locs 0 0 Qf (F0 m 23 ls []) := by
  intro q x1 x2 x3 H locs ls h hP hD hS hl
  unfold wX8_awayFrom_b23 at h
  obtain ⟨y1, ey1⟩ : ∃ z : Int32, z = x3 + (1 : Int32) := ⟨_, rfl⟩
  have h := h y1 ey1
  refine lv_iinc (v := y1) (lv' := [(3, .int y1), (0, .ref (a 14)), (1, .int x1), (2, .int x2)]) hx hb dX8_awayFrom_23 hl (k := 3) rfl (by rw [ey1]; rfl) (by decide) rfl (fun ls hl => ?_)
  refine lv_goto (tgt := 4) hx hb dX8_awayFrom_26 (by decide) ?_
  exact hkb4 q x1 x2 y1 _ _ _ h hP hD hS (lv_sub hl [1, 2, 3, 0] rfl)
set_option maxHeartbeats 4000000 in
set_option maxRecDepth 100000 in
theorem kX8_awayFrom_b4 {p : Program} {l : Launch} {e : Env} {s : State} {m : MethodId} {args : Array Value} {below : List Frame} {meth : Method} {c : Code} {G : qG} {A : Nat → Prop} {Qf : State → Prop} {R : va_W} {a : Nat → Nat} {k : Int32 → qS → Prop} (hx : p.tables.exec = Jvm.exec) (hb : c.code = cX8_awayFrom) (hml : c.maxLocals = 4) (hown : s.vm.findClass RX8 = some m.cls) (hts : ∀ w ∈ wsX8_awayFrom, w.before args s = true) (hA : ∀ q : Nat, s.heap.size ≤ q → A q) (hKn : qKn G A s s.heap) (hret : ∀ (r : Int32) (q : qS) (H : Heap) (locs : List Loc) (ls : Array Slot) (pc : Nat), k r q → va_P G.1 vwCl (wQ G a q ++ R) H → va_D A (wQ G a q ++ R) → va_S A s.heap H locs → decode cX8_awayFrom pc = .ok (.ireturn, 1) → W p l e rmX8_awayFrom s m args below meth c H locs 0 0 Qf (F0 m pc ls [.int r])) : ∀ (n : Nat) (q : qS) (x1 : Int32) (x2 : Int32) (x3 : Int32) (H : Heap) (locs : List Loc) (ls : Array Slot), wX8_awayFrom_b4 k n q x1 x2 x3 → va_P G.1 vwCl (wQ G a q ++ R) H → va_D A (wQ G a q ++ R) → va_S A s.heap H locs → lv_has ls 4 [(0, .ref (a 14)), (1, .int x1), (2, .int x2), (3, .int x3)] → W p l e rmX8_awayFrom s m args below meth c H locs 0 0 Qf (F0 m 4 ls []) := by
  intro n
  induction n with
  | zero => intros; rename_i h _ _ _ _; exact h.elim
  | succ n ih =>
    intro q x1 x2 x3 H locs ls h hP hD hS hl
    unfold wX8_awayFrom_b4 at h
    refine lv_iload_n hx hb dX8_awayFrom_4 rfl (lv_at hl 3 rfl) ?_
    refine lv_bipush (v := (20 : Int32)) hx hb dX8_awayFrom_5 (by decide) ?_
    refine lv_icmp_ge (tgt := 29) hx hb dX8_awayFrom_7 (by decide) (fun c1 => ?_) (fun c1 => ?_)
    · have h := h.1 c1
      refine lv_iload_n hx hb dX8_awayFrom_29 rfl (lv_at hl 2 rfl) ?_
      exact hret _ _ _ _ _ _ h hP hD hS dX8_awayFrom_30
    · have h := h.2 c1
      refine lv_aload_n hx hb dX8_awayFrom_10 rfl (lv_at hl 0 rfl) ?_
      refine va_get (D := G.1) (ci := 8) (v := .ref (a 6)) (C := RX8) (T := TX8) (N := 4) hx hb hts iX8_awayFrom_X8 hown hKn.k hP 7 rfl rfl 0 (by decide) (hts _ lX8_awayFrom_f9) (fun _ h9 => h9) rfl dX8_awayFrom_11 ?_
      refine lv_iload_n hx hb dX8_awayFrom_14 rfl (lv_at hl 3 rfl) ?_
      obtain ⟨hin, h⟩ := h
      refine va_iald hx hb hKn.k hP 8 0 rfl rfl hin dX8_awayFrom_15 ?_
      refine lv_iload_n hx hb dX8_awayFrom_16 rfl (lv_at hl 1 rfl) ?_
      refine lv_icmp_ne (tgt := 23) hx hb dX8_awayFrom_17 (by decide) (fun c1 => ?_) (fun c1 => ?_)
      · have h := h.1 c1
        exact kX8_awayFrom_b23 hx hb hml hown hts hA hKn hret ih q x1 x2 x3 _ _ _ h hP hD hS (lv_sub hl [0, 1, 2, 3] rfl)
      · have h := h.2 c1
        obtain ⟨y2, ey2⟩ : ∃ z : Int32, z = x2 + (1 : Int32) := ⟨_, rfl⟩
        have h := h y2 ey2
        refine lv_iinc (v := y2) (lv' := [(2, .int y2), (0, .ref (a 14)), (1, .int x1), (3, .int x3)]) hx hb dX8_awayFrom_20 hl (k := 2) rfl (by rw [ey2]; rfl) (by decide) rfl (fun ls hl => ?_)
        exact kX8_awayFrom_b23 hx hb hml hown hts hA hKn hret ih q x1 y2 x3 _ _ _ h hP hD hS (lv_sub hl [1, 2, 0, 3] rfl)
set_option maxHeartbeats 4000000 in
set_option maxRecDepth 100000 in
theorem mX8_awayFrom (l : Launch) (G : qG) (k : Int32 → qS → Prop) (R : va_W) (a : Nat → Nat) (q : qS) (sz : Nat) (p0 : Int32) : Met l yX8_awayFrom wsX8_awayFrom rmX8_awayFrom (qPc G [.ref (a 14), .int p0] (wQ G a q ++ R) sz (wX8_awayFrom k q p0)) (qQi G (wQ G a q ++ R) sz (fun (r : Int32) (u : qS) => k r u) (fun (u : qS) => wQ G a u ++ R)) 0 0 (va_A (wQ G a q ++ R) sz) := by
  refine Met.ofW (cc := cX8_awayFrom) (maxL := 4) (ret := (some .int)) (by decide) rfl ?_
  intro p e s m args below meth c s₁ B hml hv
  obtain ⟨rfl, hsz, hP, hD0, hKn0, h⟩ := hv
  have hx := B.exec
  have hb := B.bytes
  have hr := B.returns
  have hts := atoms_spec (ws := wsX8_awayFrom) B.pre
  have hown : s.vm.findClass RX8 = some m.cls := findClass_of_methodNamed B.named
  have hlocks := B.notSynchronized
  subst hsz
  have hD := hD0.self (sz := s.heap.size)
  generalize hAe : va_A (wQ G a q ++ R) s.heap.size = A at hD hKn0 ⊢
  have hA : ∀ q : Nat, s.heap.size ≤ q → A q := fun q h => by rw [← hAe]; exact Or.inr h
  have hKn : qKn G A s s.heap := hKn0
  have hS : va_S A s.heap s.heap [] := va_S.rf
  have hret : ∀ (r : Int32) (q' : qS) (H : Heap) (locs : List Loc) (ls : Array Slot) (pc : Nat), k r q' → va_P G.1 vwCl (wQ G a q' ++ R) H → va_D A (wQ G a q' ++ R) → va_S A s.heap H locs → decode cX8_awayFrom pc = .ok (.ireturn, 1) → W p l e rmX8_awayFrom s m #[.ref (a 14), .int p0] below meth c H locs 0 0 (MQ below (qQi G (wQ G a q ++ R) s.heap.size (fun (r : Int32) (u : qS) => k r u) (fun (u : qS) => wQ G a u ++ R)) #[.ref (a 14), .int p0] s 0 0 A) (F0 m pc ls [.int r]) := fun r q' H locs ls pc hk hP hD hS hd => W.iret hx hb hr (fun t ht hW => q_ri (u := (q' : qS)) hAe hk hP hD hS ht) hS.2.2 hd
  have hl := lv_entry ([.ref (a 14), .int p0]) (n := 4) (Nat.le_of_ble_eq_true rfl)
  rw [lg_entry_eq]
  generalize (lg_sl ([.ref (a 14), .int p0]) ++ List.replicate (4 - (lg_sl ([.ref (a 14), .int p0])).length) Slot.unset).toArray = ls at hl ⊢
  have hl : lv_has ls 4 [(0, .ref (a 14)), (1, .int p0)] := hl
  unfold wX8_awayFrom at h
  show W p l e rmX8_awayFrom s m #[.ref (a 14), .int p0] below meth c s.heap [] 0 0 _ _
  refine lv_iconst (v := (0 : Int32)) hx hb dX8_awayFrom_0 (by decide) ?_
  refine lv_istore_n (lv' := [(2, .int (0 : Int32)), (0, .ref (a 14)), (1, .int p0)]) hx hb dX8_awayFrom_1 rfl hl (by decide) rfl (fun ls hl => ?_)
  refine lv_iconst (v := (0 : Int32)) hx hb dX8_awayFrom_2 (by decide) ?_
  refine lv_istore_n (lv' := [(3, .int (0 : Int32)), (2, .int (0 : Int32)), (0, .ref (a 14)), (1, .int p0)]) hx hb dX8_awayFrom_3 rfl hl (by decide) rfl (fun ls hl => ?_)
  obtain ⟨n3, h⟩ := h
  exact kX8_awayFrom_b4 hx hb hml hown hts hA hKn hret n3 q p0 (0 : Int32) (0 : Int32) _ _ _ h hP hD hS (lv_sub hl [2, 3, 1, 0] rfl)
abbrev rmX8_awayInAll : Room := { frames := 1, cells := 0, slots := 0, locals := 23 }
set_option maxHeartbeats 4000000 in
set_option maxRecDepth 100000 in
theorem mX8_awayInAll (l : Launch) (G : qG) (k : Int32 → qS → Prop) (R : va_W) (a : Nat → Nat) (q : qS) (sz : Nat) : Met l yX8_awayInAll wsX8_awayInAll rmX8_awayInAll (qPc G [.ref (a 14)] (wQ G a q ++ R) sz (wX8_awayInAll k q)) (qQi G (wQ G a q ++ R) sz (fun (r : Int32) (u : qS) => k r u) (fun (u : qS) => wQ G a u ++ R)) 0 0 (va_A (wQ G a q ++ R) sz) := by
  refine Met.ofW (cc := cX8_awayInAll) (maxL := 1) (ret := (some .int)) (by decide) rfl ?_
  intro p e s m args below meth c s₁ B hml hv
  obtain ⟨rfl, hsz, hP, hD0, hKn0, h⟩ := hv
  have hx := B.exec
  have hb := B.bytes
  have hr := B.returns
  have hts := atoms_spec (ws := wsX8_awayInAll) B.pre
  have hown : s.vm.findClass RX8 = some m.cls := findClass_of_methodNamed B.named
  have hlocks := B.notSynchronized
  subst hsz
  have hD := hD0.self (sz := s.heap.size)
  generalize hAe : va_A (wQ G a q ++ R) s.heap.size = A at hD hKn0 ⊢
  have hA : ∀ q : Nat, s.heap.size ≤ q → A q := fun q h => by rw [← hAe]; exact Or.inr h
  have hKn : qKn G A s s.heap := hKn0
  have hS : va_S A s.heap s.heap [] := va_S.rf
  have hret : ∀ (r : Int32) (q' : qS) (H : Heap) (locs : List Loc) (ls : Array Slot) (pc : Nat), k r q' → va_P G.1 vwCl (wQ G a q' ++ R) H → va_D A (wQ G a q' ++ R) → va_S A s.heap H locs → decode cX8_awayInAll pc = .ok (.ireturn, 1) → W p l e rmX8_awayInAll s m #[.ref (a 14)] below meth c H locs 0 0 (MQ below (qQi G (wQ G a q ++ R) s.heap.size (fun (r : Int32) (u : qS) => k r u) (fun (u : qS) => wQ G a u ++ R)) #[.ref (a 14)] s 0 0 A) (F0 m pc ls [.int r]) := fun r q' H locs ls pc hk hP hD hS hd => W.iret hx hb hr (fun t ht hW => q_ri (u := (q' : qS)) hAe hk hP hD hS ht) hS.2.2 hd
  have hl := lv_entry ([.ref (a 14)]) (n := 1) (Nat.le_of_ble_eq_true rfl)
  rw [lg_entry_eq]
  generalize (lg_sl ([.ref (a 14)]) ++ List.replicate (1 - (lg_sl ([.ref (a 14)])).length) Slot.unset).toArray = ls at hl ⊢
  have hl : lv_has ls 1 [(0, .ref (a 14))] := hl
  unfold wX8_awayInAll at h
  show W p l e rmX8_awayInAll s m #[.ref (a 14)] below meth c s.heap [] 0 0 _ _
  refine lv_bipush (v := (20 : Int32)) hx hb dX8_awayInAll_0 (by decide) ?_
  refine lv_aload_n hx hb dX8_awayInAll_2 rfl (lv_at hl 0 rfl) ?_
  refine lv_bipush (v := (-6 : Int32)) hx hb dX8_awayInAll_3 (by decide) ?_
  refine qc_vi (As := [.int (-6 : Int32)]) (rest := [.int (20 : Int32)]) ⟨hx, hb, hml, hown, hts⟩ (mX8_awayFrom l G _ _ a q _ (-6 : Int32)) (cwV 1 hts gX8_awayInAll_X8_awayFrom rfl rfl rfl (by decide +kernel) ⟨Nat.le_of_ble_eq_true rfl, Nat.le_of_ble_eq_true rfl⟩) hP hD hS hA hKn 7 8 rfl rfl rfl h rfl hl.1 rfl (Nat.le_of_ble_eq_true rfl) dX8_awayInAll_5 ⟨Nat.zero_le _, Nat.zero_le _⟩ (fun r1 q2 H locs h hP hD hS => ?_)
  have hP : va_P G.1 vwCl (wQ G a q2 ++ R) H := hP
  have hD : va_D A (wQ G a q2 ++ R) := hD
  refine lv_isub hx hb dX8_awayInAll_8 ?_
  exact hret _ _ _ _ _ _ h hP hD hS dX8_awayInAll_9
