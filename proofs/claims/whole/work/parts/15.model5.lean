abbrev rmX10_reads : Room := { frames := 4, cells := 0, slots := 0, locals := 89 }
theorem lX10_reads_f144 : Cond.fieldLink RX10 144 "QuarryBlendsModel" "length" "I" ∈ wsX10_reads := by decide +kernel
theorem lX10_reads_f156 : Cond.fieldLink RX10 156 "QuarryBlendsModel" "at" "I" ∈ wsX10_reads := by decide +kernel
theorem lX10_reads_f159 : Cond.fieldLink RX10 159 "QuarryBlendsModel" "isWell" "Z" ∈ wsX10_reads := by decide +kernel
theorem lX10_reads_f169 : Cond.fieldLink RX10 169 "QuarryBlendsModel" "orderMany" "I" ∈ wsX10_reads := by decide +kernel
theorem iX10_reads_X10 : ∀ w ∈ wsX100, w ∈ wsX10_reads := by decide +kernel
set_option maxHeartbeats 4000000 in
set_option maxRecDepth 100000 in
theorem kX10_reads_b73 {p : Program} {l : Launch} {e : Env} {s : State} {m : MethodId} {args : Array Value} {below : List Frame} {meth : Method} {c : Code} {G : qG} {A : Nat → Prop} {Qf : State → Prop} {R : va_W} {a : Nat → Nat} {k : Int32 → qS → Prop} (hx : p.tables.exec = Jvm.exec) (hb : c.code = cX10_reads) (hml : c.maxLocals = 1) (hown : s.vm.findClass RX10 = some m.cls) (hts : ∀ w ∈ wsX10_reads, w.before args s = true) (hA : ∀ q : Nat, s.heap.size ≤ q → A q) (hKn : qKn G A s s.heap) (hret : ∀ (r : Int32) (q : qS) (H : Heap) (locs : List Loc) (ls : Array Slot) (pc : Nat), k r q → va_P G.1 vwCl (wM G a q ++ R) H → va_D A (wM G a q ++ R) → va_S A s.heap H locs → decode cX10_reads pc = .ok (.ireturn, 1) → W p l e rmX10_reads s m args below meth c H locs 0 0 Qf (F0 m pc ls [.int r])) : ∀ (q : qS) (z0 : Int32) (H : Heap) (locs : List Loc) (ls : Array Slot), wX10_reads_b73 k q z0 → va_P G.1 vwCl (wM G a q ++ R) H → va_D A (wM G a q ++ R) → va_S A s.heap H locs → lv_has ls 1 [] → W p l e rmX10_reads s m args below meth c H locs 0 0 Qf (F0 m 73 ls [.int z0]) := by
  intro q z0 H locs ls h hP hD hS hl
  unfold wX10_reads_b73 at h
  exact hret _ _ _ _ _ _ h hP hD hS dX10_reads_73
set_option maxHeartbeats 4000000 in
set_option maxRecDepth 100000 in
theorem kX10_reads_b57 {p : Program} {l : Launch} {e : Env} {s : State} {m : MethodId} {args : Array Value} {below : List Frame} {meth : Method} {c : Code} {G : qG} {A : Nat → Prop} {Qf : State → Prop} {R : va_W} {a : Nat → Nat} {k : Int32 → qS → Prop} (hx : p.tables.exec = Jvm.exec) (hb : c.code = cX10_reads) (hml : c.maxLocals = 1) (hown : s.vm.findClass RX10 = some m.cls) (hts : ∀ w ∈ wsX10_reads, w.before args s = true) (hA : ∀ q : Nat, s.heap.size ≤ q → A q) (hKn : qKn G A s s.heap) (hret : ∀ (r : Int32) (q : qS) (H : Heap) (locs : List Loc) (ls : Array Slot) (pc : Nat), k r q → va_P G.1 vwCl (wM G a q ++ R) H → va_D A (wM G a q ++ R) → va_S A s.heap H locs → decode cX10_reads pc = .ok (.ireturn, 1) → W p l e rmX10_reads s m args below meth c H locs 0 0 Qf (F0 m pc ls [.int r])) : ∀ (q : qS) (H : Heap) (locs : List Loc) (ls : Array Slot), wX10_reads_b57 k q → va_P G.1 vwCl (wM G a q ++ R) H → va_D A (wM G a q ++ R) → va_S A s.heap H locs → lv_has ls 1 [(0, .ref (a 0))] → W p l e rmX10_reads s m args below meth c H locs 0 0 Qf (F0 m 57 ls []) := by
  intro q H locs ls h hP hD hS hl
  unfold wX10_reads_b57 at h
  refine lv_aload_n hx hb dX10_reads_57 rfl (lv_at hl 0 rfl) ?_
  refine va_get (D := G.1) (ci := 10) (v := .int (q 0 12)) (C := RX10) (T := TX10) (N := 15) hx hb hts iX10_reads_X10 hown hKn.k hP 0 rfl rfl 12 (by decide) (hts _ lX10_reads_f159) (fun _ h9 => h9) rfl dX10_reads_58 ?_
  refine lv_if_eq (tgt := 69) hx hb dX10_reads_61 (by decide) (fun c1 => ?_) (fun c1 => ?_)
  · have h := h.1 c1
    refine lv_aload_n hx hb dX10_reads_69 rfl (lv_at hl 0 rfl) ?_
    refine va_get (D := G.1) (ci := 10) (v := .int (q 0 11)) (C := RX10) (T := TX10) (N := 15) hx hb hts iX10_reads_X10 hown hKn.k hP 0 rfl rfl 11 (by decide) (hts _ lX10_reads_f156) (fun _ h9 => h9) rfl dX10_reads_70 ?_
    exact kX10_reads_b73 hx hb hml hown hts hA hKn hret q (q 0 11) _ _ _ h hP hD hS (lv_sub hl [] rfl)
  · have h := h.2 c1
    refine lv_bipush (v := (-6 : Int32)) hx hb dX10_reads_64 (by decide) ?_
    refine lv_goto (tgt := 73) hx hb dX10_reads_66 (by decide) ?_
    exact kX10_reads_b73 hx hb hml hown hts hA hKn hret q (-6 : Int32) _ _ _ h hP hD hS (lv_sub hl [] rfl)
set_option maxHeartbeats 4000000 in
set_option maxRecDepth 100000 in
theorem kX10_reads_b19 {p : Program} {l : Launch} {e : Env} {s : State} {m : MethodId} {args : Array Value} {below : List Frame} {meth : Method} {c : Code} {G : qG} {A : Nat → Prop} {Qf : State → Prop} {R : va_W} {a : Nat → Nat} {k : Int32 → qS → Prop} (hx : p.tables.exec = Jvm.exec) (hb : c.code = cX10_reads) (hml : c.maxLocals = 1) (hown : s.vm.findClass RX10 = some m.cls) (hts : ∀ w ∈ wsX10_reads, w.before args s = true) (hA : ∀ q : Nat, s.heap.size ≤ q → A q) (hKn : qKn G A s s.heap) (hret : ∀ (r : Int32) (q : qS) (H : Heap) (locs : List Loc) (ls : Array Slot) (pc : Nat), k r q → va_P G.1 vwCl (wM G a q ++ R) H → va_D A (wM G a q ++ R) → va_S A s.heap H locs → decode cX10_reads pc = .ok (.ireturn, 1) → W p l e rmX10_reads s m args below meth c H locs 0 0 Qf (F0 m pc ls [.int r])) : ∀ (n : Nat) (q : qS) (H : Heap) (locs : List Loc) (ls : Array Slot), wX10_reads_b19 k n q → va_P G.1 vwCl (wM G a q ++ R) H → va_D A (wM G a q ++ R) → va_S A s.heap H locs → lv_has ls 1 [(0, .ref (a 0))] → W p l e rmX10_reads s m args below meth c H locs 0 0 Qf (F0 m 19 ls []) := by
  intro n
  induction n with
  | zero => intros; rename_i h _ _ _ _; exact h.elim
  | succ n ih =>
    intro q H locs ls h hP hD hS hl
    unfold wX10_reads_b19 at h
    refine lv_aload_n hx hb dX10_reads_19 rfl (lv_at hl 0 rfl) ?_
    refine va_get (D := G.1) (ci := 10) (v := .int (q 0 12)) (C := RX10) (T := TX10) (N := 15) hx hb hts iX10_reads_X10 hown hKn.k hP 0 rfl rfl 12 (by decide) (hts _ lX10_reads_f159) (fun _ h9 => h9) rfl dX10_reads_20 ?_
    refine lv_if_eq (tgt := 57) hx hb dX10_reads_23 (by decide) (fun c1 => ?_) (fun c1 => ?_)
    · have h := h.1 c1
      exact kX10_reads_b57 hx hb hml hown hts hA hKn hret q _ _ _ h hP hD hS (lv_sub hl [0] rfl)
    · have h := h.2 c1
      refine lv_aload_n hx hb dX10_reads_26 rfl (lv_at hl 0 rfl) ?_
      refine va_get (D := G.1) (ci := 10) (v := .int (q 0 11)) (C := RX10) (T := TX10) (N := 15) hx hb hts iX10_reads_X10 hown hKn.k hP 0 rfl rfl 11 (by decide) (hts _ lX10_reads_f156) (fun _ h9 => h9) rfl dX10_reads_27 ?_
      refine lv_aload_n hx hb dX10_reads_30 rfl (lv_at hl 0 rfl) ?_
      refine va_get (D := G.1) (ci := 10) (v := .int (q 0 8)) (C := RX10) (T := TX10) (N := 15) hx hb hts iX10_reads_X10 hown hKn.k hP 0 rfl rfl 8 (by decide) (hts _ lX10_reads_f144) (fun _ h9 => h9) rfl dX10_reads_31 ?_
      refine lv_icmp_ge (tgt := 57) hx hb dX10_reads_34 (by decide) (fun c1 => ?_) (fun c1 => ?_)
      · have h := h.1 c1
        exact kX10_reads_b57 hx hb hml hown hts hA hKn hret q _ _ _ h hP hD hS (lv_sub hl [0] rfl)
      · have h := h.2 c1
        refine lv_aload_n hx hb dX10_reads_37 rfl (lv_at hl 0 rfl) ?_
        refine lv_bipush (v := (59 : Int32)) hx hb dX10_reads_38 (by decide) ?_
        refine qc_vv (As := [.int (59 : Int32)]) (rest := []) ⟨hx, hb, hml, hown, hts⟩ (mX10_wants l G _ _ a q _ (59 : Int32)) (cwV 1 hts gX10_reads_X10_wants rfl rfl rfl (by decide +kernel) ⟨Nat.le_of_ble_eq_true rfl, Nat.le_of_ble_eq_true rfl⟩) hP hD hS hA hKn 0 10 rfl rfl rfl h rfl hl.1 rfl (Nat.le_of_ble_eq_true rfl) dX10_reads_40 ⟨Nat.zero_le _, Nat.zero_le _⟩ (fun q2 H locs h hP hD hS => ?_)
        have hP : va_P G.1 vwCl (wM G a q2 ++ R) H := hP
        have hD : va_D A (wM G a q2 ++ R) := hD
        refine lv_aload_n hx hb dX10_reads_43 rfl (lv_at hl 0 rfl) ?_
        refine va_get (D := G.1) (ci := 10) (v := .int (q2 0 12)) (C := RX10) (T := TX10) (N := 15) hx hb hts iX10_reads_X10 hown hKn.k hP 0 rfl rfl 12 (by decide) (hts _ lX10_reads_f159) (fun _ h9 => h9) rfl dX10_reads_44 ?_
        refine lv_if_eq (tgt := 19) hx hb dX10_reads_47 (by decide) (fun c1 => ?_) (fun c1 => ?_)
        · have h := h.1 c1
          exact ih q2 _ _ _ h hP hD hS (lv_sub hl [0] rfl)
        · have h := h.2 c1
          refine lv_aload_n hx hb dX10_reads_50 rfl (lv_at hl 0 rfl) ?_
          refine qc_vv (As := []) (rest := []) ⟨hx, hb, hml, hown, hts⟩ (mX10_readsOrder l G _ _ a q2 _ ) (cwV 0 hts gX10_reads_X10_readsOrder rfl rfl rfl (by decide +kernel) ⟨Nat.le_of_ble_eq_true rfl, Nat.le_of_ble_eq_true rfl⟩) hP hD hS hA hKn 0 10 rfl rfl rfl h rfl hl.1 rfl (Nat.le_of_ble_eq_true rfl) dX10_reads_51 ⟨Nat.zero_le _, Nat.zero_le _⟩ (fun q4 H locs h hP hD hS => ?_)
          have hP : va_P G.1 vwCl (wM G a q4 ++ R) H := hP
          have hD : va_D A (wM G a q4 ++ R) := hD
          refine lv_goto (tgt := 19) hx hb dX10_reads_54 (by decide) ?_
          exact ih q4 _ _ _ h hP hD hS (lv_sub hl [0] rfl)
set_option maxHeartbeats 4000000 in
set_option maxRecDepth 100000 in
theorem mX10_reads (l : Launch) (G : qG) (k : Int32 → qS → Prop) (R : va_W) (a : Nat → Nat) (q : qS) (sz : Nat) : Met l yX10_reads wsX10_reads rmX10_reads (qPc G [.ref (a 0)] (wM G a q ++ R) sz (wX10_reads k q)) (qQi G (wM G a q ++ R) sz (fun (r : Int32) (u : qS) => k r u) (fun (u : qS) => wM G a u ++ R)) 0 0 (va_A (wM G a q ++ R) sz) := by
  refine Met.ofW (cc := cX10_reads) (maxL := 1) (ret := (some .int)) (by decide) rfl ?_
  intro p e s m args below meth c s₁ B hml hv
  obtain ⟨rfl, hsz, hP, hD0, hKn0, h⟩ := hv
  have hx := B.exec
  have hb := B.bytes
  have hr := B.returns
  have hts := atoms_spec (ws := wsX10_reads) B.pre
  have hown : s.vm.findClass RX10 = some m.cls := findClass_of_methodNamed B.named
  have hlocks := B.notSynchronized
  subst hsz
  have hD := hD0.self (sz := s.heap.size)
  generalize hAe : va_A (wM G a q ++ R) s.heap.size = A at hD hKn0 ⊢
  have hA : ∀ q : Nat, s.heap.size ≤ q → A q := fun q h => by rw [← hAe]; exact Or.inr h
  have hKn : qKn G A s s.heap := hKn0
  have hS : va_S A s.heap s.heap [] := va_S.rf
  have hret : ∀ (r : Int32) (q' : qS) (H : Heap) (locs : List Loc) (ls : Array Slot) (pc : Nat), k r q' → va_P G.1 vwCl (wM G a q' ++ R) H → va_D A (wM G a q' ++ R) → va_S A s.heap H locs → decode cX10_reads pc = .ok (.ireturn, 1) → W p l e rmX10_reads s m #[.ref (a 0)] below meth c H locs 0 0 (MQ below (qQi G (wM G a q ++ R) s.heap.size (fun (r : Int32) (u : qS) => k r u) (fun (u : qS) => wM G a u ++ R)) #[.ref (a 0)] s 0 0 A) (F0 m pc ls [.int r]) := fun r q' H locs ls pc hk hP hD hS hd => W.iret hx hb hr (fun t ht hW => q_ri (u := (q' : qS)) hAe hk hP hD hS ht) hS.2.2 hd
  have hl := lv_entry ([.ref (a 0)]) (n := 1) (Nat.le_of_ble_eq_true rfl)
  rw [lg_entry_eq]
  generalize (lg_sl ([.ref (a 0)]) ++ List.replicate (1 - (lg_sl ([.ref (a 0)])).length) Slot.unset).toArray = ls at hl ⊢
  have hl : lv_has ls 1 [(0, .ref (a 0))] := hl
  unfold wX10_reads at h
  show W p l e rmX10_reads s m #[.ref (a 0)] below meth c s.heap [] 0 0 _ _
  refine lv_aload_n hx hb dX10_reads_0 rfl (lv_at hl 0 rfl) ?_
  refine lv_iconst (v := (0 : Int32)) hx hb dX10_reads_1 (by decide) ?_
  refine va_put (D := G.1) (ci := 10) (v := .int (0 : Int32)) (ty := .int) (C := RX10) (T := TX10) (N := 15) hx hb hts iX10_reads_X10 tyX10 tyX10_ok nmX10 hown hKn.k hP hD hS 0 rfl rfl 11 (by decide) (hts _ lX10_reads_f156) (fun _ h9 => h9) rfl (by decide +kernel) rfl rfl (Nat.le_of_ble_eq_true rfl) dX10_reads_2 (fun H locs hP hD hS => ?_)
  obtain ⟨q5, eq5⟩ : ∃ z : qS, z = up2 q 0 11 (0 : Int32) := ⟨_, rfl⟩
  have hP : va_P G.1 vwCl (wM G a q5 ++ R) H := by rw [eq5]; exact hP
  have hD : va_D A (wM G a q5 ++ R) := by rw [eq5]; exact hD
  have h := h q5 eq5
  refine lv_aload_n hx hb dX10_reads_5 rfl (lv_at hl 0 rfl) ?_
  refine lv_iconst (v := (1 : Int32)) hx hb dX10_reads_6 (by decide) ?_
  refine va_put (D := G.1) (ci := 10) (v := .int (1 : Int32)) (ty := .boolean) (C := RX10) (T := TX10) (N := 15) hx hb hts iX10_reads_X10 tyX10 tyX10_ok nmX10 hown hKn.k hP hD hS 0 rfl rfl 12 (by decide) (hts _ lX10_reads_f159) (fun _ h9 => h9) rfl (by decide +kernel) rfl rfl (Nat.le_of_ble_eq_true rfl) dX10_reads_7 (fun H locs hP hD hS => ?_)
  obtain ⟨q6, eq6⟩ : ∃ z : qS, z = up2 q5 0 12 (1 : Int32) := ⟨_, rfl⟩
  have hP : va_P G.1 vwCl (wM G a q6 ++ R) H := by rw [eq6]; exact hP
  have hD : va_D A (wM G a q6 ++ R) := by rw [eq6]; exact hD
  have h := h q6 eq6
  refine lv_aload_n hx hb dX10_reads_10 rfl (lv_at hl 0 rfl) ?_
  refine lv_iconst (v := (0 : Int32)) hx hb dX10_reads_11 (by decide) ?_
  refine va_put (D := G.1) (ci := 10) (v := .int (0 : Int32)) (ty := .int) (C := RX10) (T := TX10) (N := 15) hx hb hts iX10_reads_X10 tyX10 tyX10_ok nmX10 hown hKn.k hP hD hS 0 rfl rfl 14 (by decide) (hts _ lX10_reads_f169) (fun _ h9 => h9) rfl (by decide +kernel) rfl rfl (Nat.le_of_ble_eq_true rfl) dX10_reads_12 (fun H locs hP hD hS => ?_)
  obtain ⟨q7, eq7⟩ : ∃ z : qS, z = up2 q6 0 14 (0 : Int32) := ⟨_, rfl⟩
  have hP : va_P G.1 vwCl (wM G a q7 ++ R) H := by rw [eq7]; exact hP
  have hD : va_D A (wM G a q7 ++ R) := by rw [eq7]; exact hD
  have h := h q7 eq7
  refine lv_aload_n hx hb dX10_reads_15 rfl (lv_at hl 0 rfl) ?_
  refine qc_vv (As := []) (rest := []) ⟨hx, hb, hml, hown, hts⟩ (mX10_readsOrder l G _ _ a q7 _ ) (cwV 0 hts gX10_reads_X10_readsOrder rfl rfl rfl (by decide +kernel) ⟨Nat.le_of_ble_eq_true rfl, Nat.le_of_ble_eq_true rfl⟩) hP hD hS hA hKn 0 10 rfl rfl rfl h rfl hl.1 rfl (Nat.le_of_ble_eq_true rfl) dX10_reads_16 ⟨Nat.zero_le _, Nat.zero_le _⟩ (fun q9 H locs h hP hD hS => ?_)
  have hP : va_P G.1 vwCl (wM G a q9 ++ R) H := hP
  have hD : va_D A (wM G a q9 ++ R) := hD
  obtain ⟨n10, h⟩ := h
  exact kX10_reads_b19 hx hb hml hown hts hA hKn hret n10 q9 _ _ _ h hP hD hS (lv_sub hl [0] rfl)
abbrev rmX10_fault : Room := { frames := 5, cells := 0, slots := 0, locals := 109 }
theorem lX10_fault_f32 : Cond.fieldLink RX10 32 "QuarryBlendsModel" "thrown" "I" ∈ wsX10_fault := by decide +kernel
theorem iX10_fault_X10 : ∀ w ∈ wsX100, w ∈ wsX10_fault := by decide +kernel
set_option maxHeartbeats 4000000 in
set_option maxRecDepth 100000 in
theorem mX10_fault (l : Launch) (G : qG) (k : Int32 → qS → Prop) (R : va_W) (a : Nat → Nat) (q : qS) (sz : Nat) : Met l yX10_fault wsX10_fault rmX10_fault (qPc G [.ref (a 0)] (wM G a q ++ R) sz (wX10_fault k q)) (qQi G (wM G a q ++ R) sz (fun (r : Int32) (u : qS) => k r u) (fun (u : qS) => wM G a u ++ R)) 0 0 (va_A (wM G a q ++ R) sz) := by
  refine Met.ofW (cc := cX10_fault) (maxL := 1) (ret := (some .int)) (by decide) rfl ?_
  intro p e s m args below meth c s₁ B hml hv
  obtain ⟨rfl, hsz, hP, hD0, hKn0, h⟩ := hv
  have hx := B.exec
  have hb := B.bytes
  have hr := B.returns
  have hts := atoms_spec (ws := wsX10_fault) B.pre
  have hown : s.vm.findClass RX10 = some m.cls := findClass_of_methodNamed B.named
  have hlocks := B.notSynchronized
  subst hsz
  have hD := hD0.self (sz := s.heap.size)
  generalize hAe : va_A (wM G a q ++ R) s.heap.size = A at hD hKn0 ⊢
  have hA : ∀ q : Nat, s.heap.size ≤ q → A q := fun q h => by rw [← hAe]; exact Or.inr h
  have hKn : qKn G A s s.heap := hKn0
  have hS : va_S A s.heap s.heap [] := va_S.rf
  have hret : ∀ (r : Int32) (q' : qS) (H : Heap) (locs : List Loc) (ls : Array Slot) (pc : Nat), k r q' → va_P G.1 vwCl (wM G a q' ++ R) H → va_D A (wM G a q' ++ R) → va_S A s.heap H locs → decode cX10_fault pc = .ok (.ireturn, 1) → W p l e rmX10_fault s m #[.ref (a 0)] below meth c H locs 0 0 (MQ below (qQi G (wM G a q ++ R) s.heap.size (fun (r : Int32) (u : qS) => k r u) (fun (u : qS) => wM G a u ++ R)) #[.ref (a 0)] s 0 0 A) (F0 m pc ls [.int r]) := fun r q' H locs ls pc hk hP hD hS hd => W.iret hx hb hr (fun t ht hW => q_ri (u := (q' : qS)) hAe hk hP hD hS ht) hS.2.2 hd
  have hl := lv_entry ([.ref (a 0)]) (n := 1) (Nat.le_of_ble_eq_true rfl)
  rw [lg_entry_eq]
  generalize (lg_sl ([.ref (a 0)]) ++ List.replicate (1 - (lg_sl ([.ref (a 0)])).length) Slot.unset).toArray = ls at hl ⊢
  have hl : lv_has ls 1 [(0, .ref (a 0))] := hl
  unfold wX10_fault at h
  show W p l e rmX10_fault s m #[.ref (a 0)] below meth c s.heap [] 0 0 _ _
  refine lv_aload_n hx hb dX10_fault_0 rfl (lv_at hl 0 rfl) ?_
  refine lv_iconst (v := (0 : Int32)) hx hb dX10_fault_1 (by decide) ?_
  refine va_put (D := G.1) (ci := 10) (v := .int (0 : Int32)) (ty := .int) (C := RX10) (T := TX10) (N := 15) hx hb hts iX10_fault_X10 tyX10 tyX10_ok nmX10 hown hKn.k hP hD hS 0 rfl rfl 0 (by decide) (hts _ lX10_fault_f32) (fun _ h9 => h9) rfl (by decide +kernel) rfl rfl (Nat.le_of_ble_eq_true rfl) dX10_fault_2 (fun H locs hP hD hS => ?_)
  obtain ⟨q1, eq1⟩ : ∃ z : qS, z = up2 q 0 0 (0 : Int32) := ⟨_, rfl⟩
  have hP : va_P G.1 vwCl (wM G a q1 ++ R) H := by rw [eq1]; exact hP
  have hD : va_D A (wM G a q1 ++ R) := by rw [eq1]; exact hD
  have h := h q1 eq1
  refine lv_aload_n hx hb dX10_fault_5 rfl (lv_at hl 0 rfl) ?_
  refine qc_vi (As := []) (rest := []) ⟨hx, hb, hml, hown, hts⟩ (mX10_reads l G _ _ a q1 _ ) (cwV 0 hts gX10_fault_X10_reads rfl rfl rfl (by decide +kernel) ⟨Nat.le_of_ble_eq_true rfl, Nat.le_of_ble_eq_true rfl⟩) hP hD hS hA hKn 0 10 rfl rfl rfl h rfl hl.1 rfl (Nat.le_of_ble_eq_true rfl) dX10_fault_6 ⟨Nat.zero_le _, Nat.zero_le _⟩ (fun r2 q3 H locs h hP hD hS => ?_)
  have hP : va_P G.1 vwCl (wM G a q3 ++ R) H := hP
  have hD : va_D A (wM G a q3 ++ R) := hD
  exact hret _ _ _ _ _ _ h hP hD hS dX10_fault_9
abbrev rmX10_refuses : Room := { frames := 2, cells := 0, slots := 0, locals := 49 }
theorem lX10_refuses_f29 : Cond.fieldLink RX10 29 "QuarryBlendsModel" "orders" "[I" ∈ wsX10_refuses := by decide +kernel
theorem iX10_refuses_X10 : ∀ w ∈ wsX100, w ∈ wsX10_refuses := by decide +kernel
set_option maxHeartbeats 4000000 in
set_option maxRecDepth 100000 in
theorem kX10_refuses_b168 {p : Program} {l : Launch} {e : Env} {s : State} {m : MethodId} {args : Array Value} {below : List Frame} {meth : Method} {c : Code} {G : qG} {A : Nat → Prop} {Qf : State → Prop} {R : va_W} {a : Nat → Nat} {k : Int32 → qS → Prop} (hx : p.tables.exec = Jvm.exec) (hb : c.code = cX10_refuses) (hml : c.maxLocals = 3) (hown : s.vm.findClass RX10 = some m.cls) (hts : ∀ w ∈ wsX10_refuses, w.before args s = true) (hA : ∀ q : Nat, s.heap.size ≤ q → A q) (hKn : qKn G A s s.heap) (hret : ∀ (r : Int32) (q : qS) (H : Heap) (locs : List Loc) (ls : Array Slot) (pc : Nat), k r q → va_P G.1 vwCl (wM G a q ++ R) H → va_D A (wM G a q ++ R) → va_S A s.heap H locs → decode cX10_refuses pc = .ok (.ireturn, 1) → W p l e rmX10_refuses s m args below meth c H locs 0 0 Qf (F0 m pc ls [.int r])) : ∀ (q : qS) (z0 : Int32) (H : Heap) (locs : List Loc) (ls : Array Slot), wX10_refuses_b168 k q z0 → va_P G.1 vwCl (wM G a q ++ R) H → va_D A (wM G a q ++ R) → va_S A s.heap H locs → lv_has ls 3 [] → W p l e rmX10_refuses s m args below meth c H locs 0 0 Qf (F0 m 168 ls [.int z0]) := by
  intro q z0 H locs ls h hP hD hS hl
  unfold wX10_refuses_b168 at h
  exact hret _ _ _ _ _ _ h hP hD hS dX10_refuses_168
set_option maxHeartbeats 4000000 in
set_option maxRecDepth 100000 in
theorem mX10_refuses (l : Launch) (G : qG) (k : Int32 → qS → Prop) (R : va_W) (a : Nat → Nat) (q : qS) (sz : Nat) (p0 : Int32) : Met l yX10_refuses wsX10_refuses rmX10_refuses (qPc G [.ref (a 0), .int p0] (wM G a q ++ R) sz (wX10_refuses k q p0)) (qQi G (wM G a q ++ R) sz (fun (r : Int32) (u : qS) => k r u) (fun (u : qS) => wM G a u ++ R)) 0 0 (va_A (wM G a q ++ R) sz) := by
  refine Met.ofW (cc := cX10_refuses) (maxL := 3) (ret := (some .int)) (by decide) rfl ?_
  intro p e s m args below meth c s₁ B hml hv
  obtain ⟨rfl, hsz, hP, hD0, hKn0, h⟩ := hv
  have hx := B.exec
  have hb := B.bytes
  have hr := B.returns
  have hts := atoms_spec (ws := wsX10_refuses) B.pre
  have hown : s.vm.findClass RX10 = some m.cls := findClass_of_methodNamed B.named
  have hlocks := B.notSynchronized
  subst hsz
  have hD := hD0.self (sz := s.heap.size)
  generalize hAe : va_A (wM G a q ++ R) s.heap.size = A at hD hKn0 ⊢
  have hA : ∀ q : Nat, s.heap.size ≤ q → A q := fun q h => by rw [← hAe]; exact Or.inr h
  have hKn : qKn G A s s.heap := hKn0
  have hS : va_S A s.heap s.heap [] := va_S.rf
  have hret : ∀ (r : Int32) (q' : qS) (H : Heap) (locs : List Loc) (ls : Array Slot) (pc : Nat), k r q' → va_P G.1 vwCl (wM G a q' ++ R) H → va_D A (wM G a q' ++ R) → va_S A s.heap H locs → decode cX10_refuses pc = .ok (.ireturn, 1) → W p l e rmX10_refuses s m #[.ref (a 0), .int p0] below meth c H locs 0 0 (MQ below (qQi G (wM G a q ++ R) s.heap.size (fun (r : Int32) (u : qS) => k r u) (fun (u : qS) => wM G a u ++ R)) #[.ref (a 0), .int p0] s 0 0 A) (F0 m pc ls [.int r]) := fun r q' H locs ls pc hk hP hD hS hd => W.iret hx hb hr (fun t ht hW => q_ri (u := (q' : qS)) hAe hk hP hD hS ht) hS.2.2 hd
  have hl := lv_entry ([.ref (a 0), .int p0]) (n := 3) (Nat.le_of_ble_eq_true rfl)
  rw [lg_entry_eq]
  generalize (lg_sl ([.ref (a 0), .int p0]) ++ List.replicate (3 - (lg_sl ([.ref (a 0), .int p0])).length) Slot.unset).toArray = ls at hl ⊢
  have hl : lv_has ls 3 [(0, .ref (a 0)), (1, .int p0)] := hl
  unfold wX10_refuses at h
  show W p l e rmX10_refuses s m #[.ref (a 0), .int p0] below meth c s.heap [] 0 0 _ _
  refine lv_bipush (v := (7 : Int32)) hx hb dX10_refuses_0 (by decide) ?_
  refine lv_iload_n hx hb dX10_refuses_2 rfl (lv_at hl 1 rfl) ?_
  refine lv_imul hx hb dX10_refuses_3 ?_
  refine lv_topi (fun y1 ey1 => ?_)
  have h := h y1 ey1
  refine lv_istore_n (lv' := [(2, .int y1), (0, .ref (a 0)), (1, .int p0)]) hx hb dX10_refuses_4 rfl hl (by decide) rfl (fun ls hl => ?_)
  refine lv_aload_n hx hb dX10_refuses_5 rfl (lv_at hl 1 rfl) ?_
  refine va_get (D := G.1) (ci := 10) (v := .ref (a 13)) (C := RX10) (T := TX10) (N := 15) hx hb hts iX10_refuses_X10 hown hKn.k hP 0 rfl rfl 13 (by decide) (hts _ lX10_refuses_f29) (fun _ h9 => h9) rfl dX10_refuses_6 ?_
  refine lv_iload_n hx hb dX10_refuses_9 rfl (lv_at hl 0 rfl) ?_
  obtain ⟨hin, h⟩ := h
  refine va_iald hx hb hKn.k hP 7 0 rfl rfl hin dX10_refuses_10 ?_
  by_cases c99 : (q 13 (Int32.toNatClampNeg y1)) = (99 : Int32)
  · refine lv_lookup (tgt := 81) (off := 70) hx hb dX10_refuses_11 (by decide) (by rw [c99]; decide) (by decide) ?_
    have h := (h.1) c99
    refine lv_aload_n hx hb dX10_refuses_81 rfl (lv_at hl 1 rfl) ?_
    refine lv_aload_n hx hb dX10_refuses_82 rfl (lv_at hl 1 rfl) ?_
    refine va_get (D := G.1) (ci := 10) (v := .ref (a 13)) (C := RX10) (T := TX10) (N := 15) hx hb hts iX10_refuses_X10 hown hKn.k hP 0 rfl rfl 13 (by decide) (hts _ lX10_refuses_f29) (fun _ h9 => h9) rfl dX10_refuses_83 ?_
    refine lv_iload_n hx hb dX10_refuses_86 rfl (lv_at hl 0 rfl) ?_
    refine lv_iconst (v := (1 : Int32)) hx hb dX10_refuses_87 (by decide) ?_
    refine lv_iadd hx hb dX10_refuses_88 ?_
    obtain ⟨hin, h⟩ := h
    refine va_iald hx hb hKn.k hP 7 0 rfl rfl hin dX10_refuses_89 ?_
    refine lv_aload_n hx hb dX10_refuses_90 rfl (lv_at hl 1 rfl) ?_
    refine va_get (D := G.1) (ci := 10) (v := .ref (a 13)) (C := RX10) (T := TX10) (N := 15) hx hb hts iX10_refuses_X10 hown hKn.k hP 0 rfl rfl 13 (by decide) (hts _ lX10_refuses_f29) (fun _ h9 => h9) rfl dX10_refuses_91 ?_
    refine lv_iload_n hx hb dX10_refuses_94 rfl (lv_at hl 0 rfl) ?_
    refine lv_iconst (v := (2 : Int32)) hx hb dX10_refuses_95 (by decide) ?_
    refine lv_iadd hx hb dX10_refuses_96 ?_
    obtain ⟨hin, h⟩ := h
    refine va_iald hx hb hKn.k hP 7 0 rfl rfl hin dX10_refuses_97 ?_
    refine lv_aload_n hx hb dX10_refuses_98 rfl (lv_at hl 1 rfl) ?_
    refine va_get (D := G.1) (ci := 10) (v := .ref (a 13)) (C := RX10) (T := TX10) (N := 15) hx hb hts iX10_refuses_X10 hown hKn.k hP 0 rfl rfl 13 (by decide) (hts _ lX10_refuses_f29) (fun _ h9 => h9) rfl dX10_refuses_99 ?_
    refine lv_iload_n hx hb dX10_refuses_102 rfl (lv_at hl 0 rfl) ?_
    refine lv_iconst (v := (3 : Int32)) hx hb dX10_refuses_103 (by decide) ?_
    refine lv_iadd hx hb dX10_refuses_104 ?_
    obtain ⟨hin, h⟩ := h
    refine va_iald hx hb hKn.k hP 7 0 rfl rfl hin dX10_refuses_105 ?_
    refine lv_aload_n hx hb dX10_refuses_106 rfl (lv_at hl 1 rfl) ?_
    refine va_get (D := G.1) (ci := 10) (v := .ref (a 13)) (C := RX10) (T := TX10) (N := 15) hx hb hts iX10_refuses_X10 hown hKn.k hP 0 rfl rfl 13 (by decide) (hts _ lX10_refuses_f29) (fun _ h9 => h9) rfl dX10_refuses_107 ?_
    refine lv_iload_n hx hb dX10_refuses_110 rfl (lv_at hl 0 rfl) ?_
    refine lv_iconst (v := (4 : Int32)) hx hb dX10_refuses_111 (by decide) ?_
    refine lv_iadd hx hb dX10_refuses_112 ?_
    obtain ⟨hin, h⟩ := h
    refine va_iald hx hb hKn.k hP 7 0 rfl rfl hin dX10_refuses_113 ?_
    refine lv_aload_n hx hb dX10_refuses_114 rfl (lv_at hl 1 rfl) ?_
    refine va_get (D := G.1) (ci := 10) (v := .ref (a 13)) (C := RX10) (T := TX10) (N := 15) hx hb hts iX10_refuses_X10 hown hKn.k hP 0 rfl rfl 13 (by decide) (hts _ lX10_refuses_f29) (fun _ h9 => h9) rfl dX10_refuses_115 ?_
    refine lv_iload_n hx hb dX10_refuses_118 rfl (lv_at hl 0 rfl) ?_
    refine lv_iconst (v := (5 : Int32)) hx hb dX10_refuses_119 (by decide) ?_
    refine lv_iadd hx hb dX10_refuses_120 ?_
    obtain ⟨hin, h⟩ := h
    refine va_iald hx hb hKn.k hP 7 0 rfl rfl hin dX10_refuses_121 ?_
    refine lv_aload_n hx hb dX10_refuses_122 rfl (lv_at hl 1 rfl) ?_
    refine va_get (D := G.1) (ci := 10) (v := .ref (a 13)) (C := RX10) (T := TX10) (N := 15) hx hb hts iX10_refuses_X10 hown hKn.k hP 0 rfl rfl 13 (by decide) (hts _ lX10_refuses_f29) (fun _ h9 => h9) rfl dX10_refuses_123 ?_
    refine lv_iload_n hx hb dX10_refuses_126 rfl (lv_at hl 0 rfl) ?_
    refine lv_bipush (v := (6 : Int32)) hx hb dX10_refuses_127 (by decide) ?_
    refine lv_iadd hx hb dX10_refuses_129 ?_
    obtain ⟨hin, h⟩ := h
    refine va_iald hx hb hKn.k hP 7 0 rfl rfl hin dX10_refuses_130 ?_
    refine qc_vi (As := [.int (q 13 (Int32.toNatClampNeg (y1 + (1 : Int32)))), .int (q 13 (Int32.toNatClampNeg (y1 + (2 : Int32)))), .int (q 13 (Int32.toNatClampNeg (y1 + (3 : Int32)))), .int (q 13 (Int32.toNatClampNeg (y1 + (4 : Int32)))), .int (q 13 (Int32.toNatClampNeg (y1 + (5 : Int32)))), .int (q 13 (Int32.toNatClampNeg (y1 + (6 : Int32))))]) (rest := []) ⟨hx, hb, hml, hown, hts⟩ (mX10_refusesContract l G _ _ a q _ (q 13 (Int32.toNatClampNeg (y1 + (1 : Int32)))) (q 13 (Int32.toNatClampNeg (y1 + (2 : Int32)))) (q 13 (Int32.toNatClampNeg (y1 + (3 : Int32)))) (q 13 (Int32.toNatClampNeg (y1 + (4 : Int32)))) (q 13 (Int32.toNatClampNeg (y1 + (5 : Int32)))) (q 13 (Int32.toNatClampNeg (y1 + (6 : Int32))))) (cwV 6 hts gX10_refuses_X10_refusesContract rfl rfl rfl (by decide +kernel) ⟨Nat.le_of_ble_eq_true rfl, Nat.le_of_ble_eq_true rfl⟩) hP hD hS hA hKn 0 10 rfl rfl rfl h rfl hl.1 rfl (Nat.le_of_ble_eq_true rfl) dX10_refuses_131 ⟨Nat.zero_le _, Nat.zero_le _⟩ (fun r2 q3 H locs h hP hD hS => ?_)
    have hP : va_P G.1 vwCl (wM G a q3 ++ R) H := hP
    have hD : va_D A (wM G a q3 ++ R) := hD
    exact hret _ _ _ _ _ _ h hP hD hS dX10_refuses_134
  · skip
    by_cases c100 : (q 13 (Int32.toNatClampNeg y1)) = (100 : Int32)
    · refine lv_lookup (tgt := 135) (off := 124) hx hb dX10_refuses_11 (by decide) (by rw [c100]; decide) (by decide) ?_
      have h := (h.2.1) c100
      refine lv_aload_n hx hb dX10_refuses_135 rfl (lv_at hl 1 rfl) ?_
      refine lv_aload_n hx hb dX10_refuses_136 rfl (lv_at hl 1 rfl) ?_
      refine va_get (D := G.1) (ci := 10) (v := .ref (a 13)) (C := RX10) (T := TX10) (N := 15) hx hb hts iX10_refuses_X10 hown hKn.k hP 0 rfl rfl 13 (by decide) (hts _ lX10_refuses_f29) (fun _ h9 => h9) rfl dX10_refuses_137 ?_
      refine lv_iload_n hx hb dX10_refuses_140 rfl (lv_at hl 0 rfl) ?_
      refine lv_iconst (v := (1 : Int32)) hx hb dX10_refuses_141 (by decide) ?_
      refine lv_iadd hx hb dX10_refuses_142 ?_
      obtain ⟨hin, h⟩ := h
      refine va_iald hx hb hKn.k hP 7 0 rfl rfl hin dX10_refuses_143 ?_
      refine qc_vi (As := [.int (q 13 (Int32.toNatClampNeg (y1 + (1 : Int32))))]) (rest := []) ⟨hx, hb, hml, hown, hts⟩ (mX10_refusesPass l G _ _ a q _ (q 13 (Int32.toNatClampNeg (y1 + (1 : Int32))))) (cwV 1 hts gX10_refuses_X10_refusesPass rfl rfl rfl (by decide +kernel) ⟨Nat.le_of_ble_eq_true rfl, Nat.le_of_ble_eq_true rfl⟩) hP hD hS hA hKn 0 10 rfl rfl rfl h rfl hl.1 rfl (Nat.le_of_ble_eq_true rfl) dX10_refuses_144 ⟨Nat.zero_le _, Nat.zero_le _⟩ (fun r4 q5 H locs h hP hD hS => ?_)
      have hP : va_P G.1 vwCl (wM G a q5 ++ R) H := hP
      have hD : va_D A (wM G a q5 ++ R) := hD
      exact hret _ _ _ _ _ _ h hP hD hS dX10_refuses_147
    · skip
      by_cases c102 : (q 13 (Int32.toNatClampNeg y1)) = (102 : Int32)
      · refine lv_lookup (tgt := 52) (off := 41) hx hb dX10_refuses_11 (by decide) (by rw [c102]; decide) (by decide) ?_
        have h := (h.2.2.1) c102
        refine lv_aload_n hx hb dX10_refuses_52 rfl (lv_at hl 1 rfl) ?_
        refine lv_aload_n hx hb dX10_refuses_53 rfl (lv_at hl 1 rfl) ?_
        refine va_get (D := G.1) (ci := 10) (v := .ref (a 13)) (C := RX10) (T := TX10) (N := 15) hx hb hts iX10_refuses_X10 hown hKn.k hP 0 rfl rfl 13 (by decide) (hts _ lX10_refuses_f29) (fun _ h9 => h9) rfl dX10_refuses_54 ?_
        refine lv_iload_n hx hb dX10_refuses_57 rfl (lv_at hl 0 rfl) ?_
        refine lv_iconst (v := (1 : Int32)) hx hb dX10_refuses_58 (by decide) ?_
        refine lv_iadd hx hb dX10_refuses_59 ?_
        obtain ⟨hin, h⟩ := h
        refine va_iald hx hb hKn.k hP 7 0 rfl rfl hin dX10_refuses_60 ?_
        refine lv_aload_n hx hb dX10_refuses_61 rfl (lv_at hl 1 rfl) ?_
        refine va_get (D := G.1) (ci := 10) (v := .ref (a 13)) (C := RX10) (T := TX10) (N := 15) hx hb hts iX10_refuses_X10 hown hKn.k hP 0 rfl rfl 13 (by decide) (hts _ lX10_refuses_f29) (fun _ h9 => h9) rfl dX10_refuses_62 ?_
        refine lv_iload_n hx hb dX10_refuses_65 rfl (lv_at hl 0 rfl) ?_
        refine lv_iconst (v := (2 : Int32)) hx hb dX10_refuses_66 (by decide) ?_
        refine lv_iadd hx hb dX10_refuses_67 ?_
        obtain ⟨hin, h⟩ := h
        refine va_iald hx hb hKn.k hP 7 0 rfl rfl hin dX10_refuses_68 ?_
        refine lv_aload_n hx hb dX10_refuses_69 rfl (lv_at hl 1 rfl) ?_
        refine va_get (D := G.1) (ci := 10) (v := .ref (a 13)) (C := RX10) (T := TX10) (N := 15) hx hb hts iX10_refuses_X10 hown hKn.k hP 0 rfl rfl 13 (by decide) (hts _ lX10_refuses_f29) (fun _ h9 => h9) rfl dX10_refuses_70 ?_
        refine lv_iload_n hx hb dX10_refuses_73 rfl (lv_at hl 0 rfl) ?_
        refine lv_iconst (v := (3 : Int32)) hx hb dX10_refuses_74 (by decide) ?_
        refine lv_iadd hx hb dX10_refuses_75 ?_
        obtain ⟨hin, h⟩ := h
        refine va_iald hx hb hKn.k hP 7 0 rfl rfl hin dX10_refuses_76 ?_
        refine qc_vi (As := [.int (q 13 (Int32.toNatClampNeg (y1 + (1 : Int32)))), .int (q 13 (Int32.toNatClampNeg (y1 + (2 : Int32)))), .int (q 13 (Int32.toNatClampNeg (y1 + (3 : Int32))))]) (rest := []) ⟨hx, hb, hml, hown, hts⟩ (mX10_refusesFace l G _ _ a q _ (q 13 (Int32.toNatClampNeg (y1 + (1 : Int32)))) (q 13 (Int32.toNatClampNeg (y1 + (2 : Int32)))) (q 13 (Int32.toNatClampNeg (y1 + (3 : Int32))))) (cwV 3 hts gX10_refuses_X10_refusesFace rfl rfl rfl (by decide +kernel) ⟨Nat.le_of_ble_eq_true rfl, Nat.le_of_ble_eq_true rfl⟩) hP hD hS hA hKn 0 10 rfl rfl rfl h rfl hl.1 rfl (Nat.le_of_ble_eq_true rfl) dX10_refuses_77 ⟨Nat.zero_le _, Nat.zero_le _⟩ (fun r6 q7 H locs h hP hD hS => ?_)
        have hP : va_P G.1 vwCl (wM G a q7 ++ R) H := hP
        have hD : va_D A (wM G a q7 ++ R) := hD
        exact hret _ _ _ _ _ _ h hP hD hS dX10_refuses_80
      · skip
        by_cases c120 : (q 13 (Int32.toNatClampNeg y1)) = (120 : Int32)
        · refine lv_lookup (tgt := 148) (off := 137) hx hb dX10_refuses_11 (by decide) (by rw [c120]; decide) (by decide) ?_
          have h := (h.2.2.2.1) c120
          refine lv_aload_n hx hb dX10_refuses_148 rfl (lv_at hl 1 rfl) ?_
          refine lv_aload_n hx hb dX10_refuses_149 rfl (lv_at hl 1 rfl) ?_
          refine va_get (D := G.1) (ci := 10) (v := .ref (a 13)) (C := RX10) (T := TX10) (N := 15) hx hb hts iX10_refuses_X10 hown hKn.k hP 0 rfl rfl 13 (by decide) (hts _ lX10_refuses_f29) (fun _ h9 => h9) rfl dX10_refuses_150 ?_
          refine lv_iload_n hx hb dX10_refuses_153 rfl (lv_at hl 0 rfl) ?_
          refine lv_iconst (v := (1 : Int32)) hx hb dX10_refuses_154 (by decide) ?_
          refine lv_iadd hx hb dX10_refuses_155 ?_
          obtain ⟨hin, h⟩ := h
          refine va_iald hx hb hKn.k hP 7 0 rfl rfl hin dX10_refuses_156 ?_
          refine qc_vi (As := [.int (q 13 (Int32.toNatClampNeg (y1 + (1 : Int32))))]) (rest := []) ⟨hx, hb, hml, hown, hts⟩ (mX10_isContract l G _ _ a q _ (q 13 (Int32.toNatClampNeg (y1 + (1 : Int32))))) (cwV 1 hts gX10_refuses_X10_isContract rfl rfl rfl (by decide +kernel) ⟨Nat.le_of_ble_eq_true rfl, Nat.le_of_ble_eq_true rfl⟩) hP hD hS hA hKn 0 10 rfl rfl rfl h rfl hl.1 rfl (Nat.le_of_ble_eq_true rfl) dX10_refuses_157 ⟨Nat.zero_le _, Nat.zero_le _⟩ (fun r8 q9 H locs h hP hD hS => ?_)
          have hP : va_P G.1 vwCl (wM G a q9 ++ R) H := hP
          have hD : va_D A (wM G a q9 ++ R) := hD
          refine lv_if_eq (tgt := 167) hx hb dX10_refuses_160 (by decide) (fun c1 => ?_) (fun c1 => ?_)
          · have h := h.1 c1
            refine lv_iconst (v := (-1 : Int32)) hx hb dX10_refuses_167 (by decide) ?_
            exact kX10_refuses_b168 hx hb hml hown hts hA hKn hret q9 (-1 : Int32) _ _ _ h hP hD hS (lv_sub hl [] rfl)
          · have h := h.2 c1
            refine lv_iconst (v := (0 : Int32)) hx hb dX10_refuses_163 (by decide) ?_
            refine lv_goto (tgt := 168) hx hb dX10_refuses_164 (by decide) ?_
            exact kX10_refuses_b168 hx hb hml hown hts hA hKn hret q9 (0 : Int32) _ _ _ h hP hD hS (lv_sub hl [] rfl)
        · skip
          refine lv_lookup (tgt := 169) (off := 158) hx hb dX10_refuses_11 (by decide) (by have gc99 : ¬ 99 = ((q 13 (Int32.toNatClampNeg y1))).toInt := fun z9 => q_ti _ (99) c99 z9.symm; have gc100 : ¬ 100 = ((q 13 (Int32.toNatClampNeg y1))).toInt := fun z9 => q_ti _ (100) c100 z9.symm; have gc102 : ¬ 102 = ((q 13 (Int32.toNatClampNeg y1))).toInt := fun z9 => q_ti _ (102) c102 z9.symm; have gc120 : ¬ 120 = ((q 13 (Int32.toNatClampNeg y1))).toInt := fun z9 => q_ti _ (120) c120 z9.symm; simp [Op.lookupswitch.offset, gc99, gc100, gc102, gc120]) (by decide) ?_
          have h := h.2.2.2.2 c99 c100 c102 c120
          refine lv_iconst (v := (0 : Int32)) hx hb dX10_refuses_169 (by decide) ?_
          exact hret _ _ _ _ _ _ h hP hD hS dX10_refuses_170
abbrev rmX10_does : Room := { frames := 5, cells := 0, slots := 0, locals := 113 }
theorem lX10_does_f29 : Cond.fieldLink RX10 29 "QuarryBlendsModel" "orders" "[I" ∈ wsX10_does := by decide +kernel
theorem lX10_does_f7 : Cond.fieldLink RX10 7 "QuarryBlendsModel" "s" "[I" ∈ wsX10_does := by decide +kernel
theorem iX10_does_X10 : ∀ w ∈ wsX100, w ∈ wsX10_does := by decide +kernel
set_option maxHeartbeats 4000000 in
set_option maxRecDepth 100000 in
theorem kX10_does_b205 {p : Program} {l : Launch} {e : Env} {s : State} {m : MethodId} {args : Array Value} {below : List Frame} {meth : Method} {c : Code} {G : qG} {A : Nat → Prop} {Qf : State → Prop} {R : va_W} {a : Nat → Nat} {k : qS → Prop} (hx : p.tables.exec = Jvm.exec) (hb : c.code = cX10_does) (hml : c.maxLocals = 3) (hown : s.vm.findClass RX10 = some m.cls) (hts : ∀ w ∈ wsX10_does, w.before args s = true) (hA : ∀ q : Nat, s.heap.size ≤ q → A q) (hKn : qKn G A s s.heap) (hret : ∀ (q : qS) (H : Heap) (locs : List Loc) (ls : Array Slot) (pc : Nat), k q → va_P G.1 vwCl (wM G a q ++ R) H → va_D A (wM G a q ++ R) → va_S A s.heap H locs → decode cX10_does pc = .ok (.return_, 1) → W p l e rmX10_does s m args below meth c H locs 0 0 Qf (F0 m pc ls [])) : ∀ (q : qS) (H : Heap) (locs : List Loc) (ls : Array Slot), wX10_does_b205 k q → va_P G.1 vwCl (wM G a q ++ R) H → va_D A (wM G a q ++ R) → va_S A s.heap H locs → lv_has ls 3 [] → W p l e rmX10_does s m args below meth c H locs 0 0 Qf (F0 m 205 ls []) := by
  intro q H locs ls h hP hD hS hl
  unfold wX10_does_b205 at h
  exact hret _ _ _ _ _ h hP hD hS dX10_does_205
set_option maxHeartbeats 4000000 in
set_option maxRecDepth 100000 in
theorem mX10_does (l : Launch) (G : qG) (k : qS → Prop) (R : va_W) (a : Nat → Nat) (q : qS) (sz : Nat) (p0 : Int32) : Met l yX10_does wsX10_does rmX10_does (qPc G [.ref (a 0), .int p0] (wM G a q ++ R) sz (wX10_does k q p0)) (qQv G (wM G a q ++ R) sz (fun (u : qS) => k u) (fun (u : qS) => wM G a u ++ R)) 0 0 (va_A (wM G a q ++ R) sz) := by
  refine Met.ofW (cc := cX10_does) (maxL := 3) (ret := none) (by decide) rfl ?_
  intro p e s m args below meth c s₁ B hml hv
  obtain ⟨rfl, hsz, hP, hD0, hKn0, h⟩ := hv
  have hx := B.exec
  have hb := B.bytes
  have hr := B.returns
  have hts := atoms_spec (ws := wsX10_does) B.pre
  have hown : s.vm.findClass RX10 = some m.cls := findClass_of_methodNamed B.named
  have hlocks := B.notSynchronized
  subst hsz
  have hD := hD0.self (sz := s.heap.size)
  generalize hAe : va_A (wM G a q ++ R) s.heap.size = A at hD hKn0 ⊢
  have hA : ∀ q : Nat, s.heap.size ≤ q → A q := fun q h => by rw [← hAe]; exact Or.inr h
  have hKn : qKn G A s s.heap := hKn0
  have hS : va_S A s.heap s.heap [] := va_S.rf
  have hret : ∀ (q' : qS) (H : Heap) (locs : List Loc) (ls : Array Slot) (pc : Nat), k q' → va_P G.1 vwCl (wM G a q' ++ R) H → va_D A (wM G a q' ++ R) → va_S A s.heap H locs → decode cX10_does pc = .ok (.return_, 1) → W p l e rmX10_does s m #[.ref (a 0), .int p0] below meth c H locs 0 0 (MQ below (qQv G (wM G a q ++ R) s.heap.size (fun (u : qS) => k u) (fun (u : qS) => wM G a u ++ R)) #[.ref (a 0), .int p0] s 0 0 A) (F0 m pc ls []) := fun q' H locs ls pc hk hP hD hS hd => W.vret hx hb hr (fun t ht hW => q_rv (u := (q' : qS)) hAe hk hP hD hS ht) hS.2.2 hd
  have hl := lv_entry ([.ref (a 0), .int p0]) (n := 3) (Nat.le_of_ble_eq_true rfl)
  rw [lg_entry_eq]
  generalize (lg_sl ([.ref (a 0), .int p0]) ++ List.replicate (3 - (lg_sl ([.ref (a 0), .int p0])).length) Slot.unset).toArray = ls at hl ⊢
  have hl : lv_has ls 3 [(0, .ref (a 0)), (1, .int p0)] := hl
  unfold wX10_does at h
  show W p l e rmX10_does s m #[.ref (a 0), .int p0] below meth c s.heap [] 0 0 _ _
  refine lv_bipush (v := (7 : Int32)) hx hb dX10_does_0 (by decide) ?_
  refine lv_iload_n hx hb dX10_does_2 rfl (lv_at hl 1 rfl) ?_
  refine lv_imul hx hb dX10_does_3 ?_
  refine lv_topi (fun y1 ey1 => ?_)
  have h := h y1 ey1
  refine lv_istore_n (lv' := [(2, .int y1), (0, .ref (a 0)), (1, .int p0)]) hx hb dX10_does_4 rfl hl (by decide) rfl (fun ls hl => ?_)
  refine lv_aload_n hx hb dX10_does_5 rfl (lv_at hl 1 rfl) ?_
  refine va_get (D := G.1) (ci := 10) (v := .ref (a 13)) (C := RX10) (T := TX10) (N := 15) hx hb hts iX10_does_X10 hown hKn.k hP 0 rfl rfl 13 (by decide) (hts _ lX10_does_f29) (fun _ h9 => h9) rfl dX10_does_6 ?_
  refine lv_iload_n hx hb dX10_does_9 rfl (lv_at hl 0 rfl) ?_
  obtain ⟨hin, h⟩ := h
  refine va_iald hx hb hKn.k hP 7 0 rfl rfl hin dX10_does_10 ?_
  by_cases c99 : (q 13 (Int32.toNatClampNeg y1)) = (99 : Int32)
  · refine lv_lookup (tgt := 92) (off := 81) hx hb dX10_does_11 (by decide) (by rw [c99]; decide) (by decide) ?_
    have h := (h.1) c99
    refine lv_aload_n hx hb dX10_does_92 rfl (lv_at hl 1 rfl) ?_
    refine lv_aload_n hx hb dX10_does_93 rfl (lv_at hl 1 rfl) ?_
    refine va_get (D := G.1) (ci := 10) (v := .ref (a 13)) (C := RX10) (T := TX10) (N := 15) hx hb hts iX10_does_X10 hown hKn.k hP 0 rfl rfl 13 (by decide) (hts _ lX10_does_f29) (fun _ h9 => h9) rfl dX10_does_94 ?_
    refine lv_iload_n hx hb dX10_does_97 rfl (lv_at hl 0 rfl) ?_
    refine lv_iconst (v := (1 : Int32)) hx hb dX10_does_98 (by decide) ?_
    refine lv_iadd hx hb dX10_does_99 ?_
    obtain ⟨hin, h⟩ := h
    refine va_iald hx hb hKn.k hP 7 0 rfl rfl hin dX10_does_100 ?_
    refine lv_aload_n hx hb dX10_does_101 rfl (lv_at hl 1 rfl) ?_
    refine va_get (D := G.1) (ci := 10) (v := .ref (a 13)) (C := RX10) (T := TX10) (N := 15) hx hb hts iX10_does_X10 hown hKn.k hP 0 rfl rfl 13 (by decide) (hts _ lX10_does_f29) (fun _ h9 => h9) rfl dX10_does_102 ?_
    refine lv_iload_n hx hb dX10_does_105 rfl (lv_at hl 0 rfl) ?_
    refine lv_iconst (v := (2 : Int32)) hx hb dX10_does_106 (by decide) ?_
    refine lv_iadd hx hb dX10_does_107 ?_
    obtain ⟨hin, h⟩ := h
    refine va_iald hx hb hKn.k hP 7 0 rfl rfl hin dX10_does_108 ?_
    refine lv_aload_n hx hb dX10_does_109 rfl (lv_at hl 1 rfl) ?_
    refine va_get (D := G.1) (ci := 10) (v := .ref (a 13)) (C := RX10) (T := TX10) (N := 15) hx hb hts iX10_does_X10 hown hKn.k hP 0 rfl rfl 13 (by decide) (hts _ lX10_does_f29) (fun _ h9 => h9) rfl dX10_does_110 ?_
    refine lv_iload_n hx hb dX10_does_113 rfl (lv_at hl 0 rfl) ?_
    refine lv_iconst (v := (3 : Int32)) hx hb dX10_does_114 (by decide) ?_
    refine lv_iadd hx hb dX10_does_115 ?_
    obtain ⟨hin, h⟩ := h
    refine va_iald hx hb hKn.k hP 7 0 rfl rfl hin dX10_does_116 ?_
    refine lv_aload_n hx hb dX10_does_117 rfl (lv_at hl 1 rfl) ?_
    refine va_get (D := G.1) (ci := 10) (v := .ref (a 13)) (C := RX10) (T := TX10) (N := 15) hx hb hts iX10_does_X10 hown hKn.k hP 0 rfl rfl 13 (by decide) (hts _ lX10_does_f29) (fun _ h9 => h9) rfl dX10_does_118 ?_
    refine lv_iload_n hx hb dX10_does_121 rfl (lv_at hl 0 rfl) ?_
    refine lv_iconst (v := (4 : Int32)) hx hb dX10_does_122 (by decide) ?_
    refine lv_iadd hx hb dX10_does_123 ?_
    obtain ⟨hin, h⟩ := h
    refine va_iald hx hb hKn.k hP 7 0 rfl rfl hin dX10_does_124 ?_
    refine lv_aload_n hx hb dX10_does_125 rfl (lv_at hl 1 rfl) ?_
    refine va_get (D := G.1) (ci := 10) (v := .ref (a 13)) (C := RX10) (T := TX10) (N := 15) hx hb hts iX10_does_X10 hown hKn.k hP 0 rfl rfl 13 (by decide) (hts _ lX10_does_f29) (fun _ h9 => h9) rfl dX10_does_126 ?_
    refine lv_iload_n hx hb dX10_does_129 rfl (lv_at hl 0 rfl) ?_
    refine lv_iconst (v := (5 : Int32)) hx hb dX10_does_130 (by decide) ?_
    refine lv_iadd hx hb dX10_does_131 ?_
    obtain ⟨hin, h⟩ := h
    refine va_iald hx hb hKn.k hP 7 0 rfl rfl hin dX10_does_132 ?_
    refine lv_aload_n hx hb dX10_does_133 rfl (lv_at hl 1 rfl) ?_
    refine va_get (D := G.1) (ci := 10) (v := .ref (a 13)) (C := RX10) (T := TX10) (N := 15) hx hb hts iX10_does_X10 hown hKn.k hP 0 rfl rfl 13 (by decide) (hts _ lX10_does_f29) (fun _ h9 => h9) rfl dX10_does_134 ?_
    refine lv_iload_n hx hb dX10_does_137 rfl (lv_at hl 0 rfl) ?_
    refine lv_bipush (v := (6 : Int32)) hx hb dX10_does_138 (by decide) ?_
    refine lv_iadd hx hb dX10_does_140 ?_
    obtain ⟨hin, h⟩ := h
    refine va_iald hx hb hKn.k hP 7 0 rfl rfl hin dX10_does_141 ?_
    refine qc_vi (As := [.int (q 13 (Int32.toNatClampNeg (y1 + (1 : Int32)))), .int (q 13 (Int32.toNatClampNeg (y1 + (2 : Int32)))), .int (q 13 (Int32.toNatClampNeg (y1 + (3 : Int32)))), .int (q 13 (Int32.toNatClampNeg (y1 + (4 : Int32)))), .int (q 13 (Int32.toNatClampNeg (y1 + (5 : Int32)))), .int (q 13 (Int32.toNatClampNeg (y1 + (6 : Int32))))]) (rest := []) ⟨hx, hb, hml, hown, hts⟩ (mX10_laysContract l G _ _ a q _ (q 13 (Int32.toNatClampNeg (y1 + (1 : Int32)))) (q 13 (Int32.toNatClampNeg (y1 + (2 : Int32)))) (q 13 (Int32.toNatClampNeg (y1 + (3 : Int32)))) (q 13 (Int32.toNatClampNeg (y1 + (4 : Int32)))) (q 13 (Int32.toNatClampNeg (y1 + (5 : Int32)))) (q 13 (Int32.toNatClampNeg (y1 + (6 : Int32))))) (cwV 6 hts gX10_does_X10_laysContract rfl rfl rfl (by decide +kernel) ⟨Nat.le_of_ble_eq_true rfl, Nat.le_of_ble_eq_true rfl⟩) hP hD hS hA hKn 0 10 rfl rfl rfl h rfl hl.1 rfl (Nat.le_of_ble_eq_true rfl) dX10_does_142 ⟨Nat.zero_le _, Nat.zero_le _⟩ (fun r2 q3 H locs h hP hD hS => ?_)
    have hP : va_P G.1 vwCl (wM G a q3 ++ R) H := hP
    have hD : va_D A (wM G a q3 ++ R) := hD
    refine lv_pop hx hb dX10_does_145 rfl ?_
    refine lv_goto (tgt := 205) hx hb dX10_does_146 (by decide) ?_
    exact kX10_does_b205 hx hb hml hown hts hA hKn hret q3 _ _ _ h hP hD hS (lv_sub hl [] rfl)
  · skip
    by_cases c100 : (q 13 (Int32.toNatClampNeg y1)) = (100 : Int32)
    · refine lv_lookup (tgt := 149) (off := 138) hx hb dX10_does_11 (by decide) (by rw [c100]; decide) (by decide) ?_
      have h := (h.2.1) c100
      refine lv_aload_n hx hb dX10_does_149 rfl (lv_at hl 1 rfl) ?_
      refine lv_aload_n hx hb dX10_does_150 rfl (lv_at hl 1 rfl) ?_
      refine va_get (D := G.1) (ci := 10) (v := .ref (a 13)) (C := RX10) (T := TX10) (N := 15) hx hb hts iX10_does_X10 hown hKn.k hP 0 rfl rfl 13 (by decide) (hts _ lX10_does_f29) (fun _ h9 => h9) rfl dX10_does_151 ?_
      refine lv_iload_n hx hb dX10_does_154 rfl (lv_at hl 0 rfl) ?_
      refine lv_iconst (v := (1 : Int32)) hx hb dX10_does_155 (by decide) ?_
      refine lv_iadd hx hb dX10_does_156 ?_
      obtain ⟨hin, h⟩ := h
      refine va_iald hx hb hKn.k hP 7 0 rfl rfl hin dX10_does_157 ?_
      refine qc_vi (As := [.int (q 13 (Int32.toNatClampNeg (y1 + (1 : Int32))))]) (rest := []) ⟨hx, hb, hml, hown, hts⟩ (mX10_days l G _ _ a q _ (q 13 (Int32.toNatClampNeg (y1 + (1 : Int32))))) (cwV 1 hts gX10_does_X10_days rfl rfl rfl (by decide +kernel) ⟨Nat.le_of_ble_eq_true rfl, Nat.le_of_ble_eq_true rfl⟩) hP hD hS hA hKn 0 10 rfl rfl rfl h rfl hl.1 rfl (Nat.le_of_ble_eq_true rfl) dX10_does_158 ⟨Nat.zero_le _, Nat.zero_le _⟩ (fun r4 q5 H locs h hP hD hS => ?_)
      have hP : va_P G.1 vwCl (wM G a q5 ++ R) H := hP
      have hD : va_D A (wM G a q5 ++ R) := hD
      refine lv_pop hx hb dX10_does_161 rfl ?_
      refine lv_goto (tgt := 205) hx hb dX10_does_162 (by decide) ?_
      exact kX10_does_b205 hx hb hml hown hts hA hKn hret q5 _ _ _ h hP hD hS (lv_sub hl [] rfl)
    · skip
      by_cases c102 : (q 13 (Int32.toNatClampNeg y1)) = (102 : Int32)
      · refine lv_lookup (tgt := 60) (off := 49) hx hb dX10_does_11 (by decide) (by rw [c102]; decide) (by decide) ?_
        have h := (h.2.2.1) c102
        refine lv_aload_n hx hb dX10_does_60 rfl (lv_at hl 1 rfl) ?_
        refine lv_aload_n hx hb dX10_does_61 rfl (lv_at hl 1 rfl) ?_
        refine va_get (D := G.1) (ci := 10) (v := .ref (a 13)) (C := RX10) (T := TX10) (N := 15) hx hb hts iX10_does_X10 hown hKn.k hP 0 rfl rfl 13 (by decide) (hts _ lX10_does_f29) (fun _ h9 => h9) rfl dX10_does_62 ?_
        refine lv_iload_n hx hb dX10_does_65 rfl (lv_at hl 0 rfl) ?_
        refine lv_iconst (v := (1 : Int32)) hx hb dX10_does_66 (by decide) ?_
        refine lv_iadd hx hb dX10_does_67 ?_
        obtain ⟨hin, h⟩ := h
        refine va_iald hx hb hKn.k hP 7 0 rfl rfl hin dX10_does_68 ?_
        refine lv_aload_n hx hb dX10_does_69 rfl (lv_at hl 1 rfl) ?_
        refine va_get (D := G.1) (ci := 10) (v := .ref (a 13)) (C := RX10) (T := TX10) (N := 15) hx hb hts iX10_does_X10 hown hKn.k hP 0 rfl rfl 13 (by decide) (hts _ lX10_does_f29) (fun _ h9 => h9) rfl dX10_does_70 ?_
        refine lv_iload_n hx hb dX10_does_73 rfl (lv_at hl 0 rfl) ?_
        refine lv_iconst (v := (2 : Int32)) hx hb dX10_does_74 (by decide) ?_
        refine lv_iadd hx hb dX10_does_75 ?_
        obtain ⟨hin, h⟩ := h
        refine va_iald hx hb hKn.k hP 7 0 rfl rfl hin dX10_does_76 ?_
        refine lv_aload_n hx hb dX10_does_77 rfl (lv_at hl 1 rfl) ?_
        refine va_get (D := G.1) (ci := 10) (v := .ref (a 13)) (C := RX10) (T := TX10) (N := 15) hx hb hts iX10_does_X10 hown hKn.k hP 0 rfl rfl 13 (by decide) (hts _ lX10_does_f29) (fun _ h9 => h9) rfl dX10_does_78 ?_
        refine lv_iload_n hx hb dX10_does_81 rfl (lv_at hl 0 rfl) ?_
        refine lv_iconst (v := (3 : Int32)) hx hb dX10_does_82 (by decide) ?_
        refine lv_iadd hx hb dX10_does_83 ?_
        obtain ⟨hin, h⟩ := h
        refine va_iald hx hb hKn.k hP 7 0 rfl rfl hin dX10_does_84 ?_
        refine qc_vi (As := [.int (q 13 (Int32.toNatClampNeg (y1 + (1 : Int32)))), .int (q 13 (Int32.toNatClampNeg (y1 + (2 : Int32)))), .int (q 13 (Int32.toNatClampNeg (y1 + (3 : Int32))))]) (rest := []) ⟨hx, hb, hml, hown, hts⟩ (mX10_laysFace l G _ _ a q _ (q 13 (Int32.toNatClampNeg (y1 + (1 : Int32)))) (q 13 (Int32.toNatClampNeg (y1 + (2 : Int32)))) (q 13 (Int32.toNatClampNeg (y1 + (3 : Int32))))) (cwV 3 hts gX10_does_X10_laysFace rfl rfl rfl (by decide +kernel) ⟨Nat.le_of_ble_eq_true rfl, Nat.le_of_ble_eq_true rfl⟩) hP hD hS hA hKn 0 10 rfl rfl rfl h rfl hl.1 rfl (Nat.le_of_ble_eq_true rfl) dX10_does_85 ⟨Nat.zero_le _, Nat.zero_le _⟩ (fun r6 q7 H locs h hP hD hS => ?_)
        have hP : va_P G.1 vwCl (wM G a q7 ++ R) H := hP
        have hD : va_D A (wM G a q7 ++ R) := hD
        refine lv_pop hx hb dX10_does_88 rfl ?_
        refine lv_goto (tgt := 205) hx hb dX10_does_89 (by decide) ?_
        exact kX10_does_b205 hx hb hml hown hts hA hKn hret q7 _ _ _ h hP hD hS (lv_sub hl [] rfl)
      · skip
        by_cases c103 : (q 13 (Int32.toNatClampNeg y1)) = (103 : Int32)
        · refine lv_lookup (tgt := 180) (off := 169) hx hb dX10_does_11 (by decide) (by rw [c103]; decide) (by decide) ?_
          have h := (h.2.2.2.1) c103
          refine lv_aload_n hx hb dX10_does_180 rfl (lv_at hl 1 rfl) ?_
          refine va_get (D := G.1) (ci := 10) (v := .ref (a 1)) (C := RX10) (T := TX10) (N := 15) hx hb hts iX10_does_X10 hown hKn.k hP 0 rfl rfl 1 (by decide) (hts _ lX10_does_f7) (fun _ h9 => h9) rfl dX10_does_181 ?_
          refine lv_iconst (v := (3 : Int32)) hx hb dX10_does_184 (by decide) ?_
          refine lv_aload_n hx hb dX10_does_185 rfl (lv_at hl 1 rfl) ?_
          refine va_get (D := G.1) (ci := 10) (v := .ref (a 13)) (C := RX10) (T := TX10) (N := 15) hx hb hts iX10_does_X10 hown hKn.k hP 0 rfl rfl 13 (by decide) (hts _ lX10_does_f29) (fun _ h9 => h9) rfl dX10_does_186 ?_
          refine lv_iload_n hx hb dX10_does_189 rfl (lv_at hl 0 rfl) ?_
          refine lv_iconst (v := (1 : Int32)) hx hb dX10_does_190 (by decide) ?_
          refine lv_iadd hx hb dX10_does_191 ?_
          obtain ⟨hin, h⟩ := h
          refine va_iald hx hb hKn.k hP 7 0 rfl rfl hin dX10_does_192 ?_
          refine lv_topi (fun y8 ey8 => ?_)
          have h := h y8 ey8
          refine va_iast hx hb hKn.k hP hD hS 1 0 rfl rfl (by unfold vp_in; decide) dX10_does_193 (fun H locs hP hD hS => ?_)
          obtain ⟨q9, eq9⟩ : ∃ z : qS, z = up2 q 1 3 y8 := ⟨_, rfl⟩
          have hP : va_P G.1 vwCl (wM G a q9 ++ R) H := by rw [eq9]; exact hP
          have hD : va_D A (wM G a q9 ++ R) := by rw [eq9]; exact hD
          have h := h q9 eq9
          refine lv_goto (tgt := 205) hx hb dX10_does_194 (by decide) ?_
          exact kX10_does_b205 hx hb hml hown hts hA hKn hret q9 _ _ _ h hP hD hS (lv_sub hl [] rfl)
        · skip
          by_cases c120 : (q 13 (Int32.toNatClampNeg y1)) = (120 : Int32)
          · refine lv_lookup (tgt := 165) (off := 154) hx hb dX10_does_11 (by decide) (by rw [c120]; decide) (by decide) ?_
            have h := (h.2.2.2.2.1) c120
            refine lv_aload_n hx hb dX10_does_165 rfl (lv_at hl 1 rfl) ?_
            refine lv_aload_n hx hb dX10_does_166 rfl (lv_at hl 1 rfl) ?_
            refine va_get (D := G.1) (ci := 10) (v := .ref (a 13)) (C := RX10) (T := TX10) (N := 15) hx hb hts iX10_does_X10 hown hKn.k hP 0 rfl rfl 13 (by decide) (hts _ lX10_does_f29) (fun _ h9 => h9) rfl dX10_does_167 ?_
            refine lv_iload_n hx hb dX10_does_170 rfl (lv_at hl 0 rfl) ?_
            refine lv_iconst (v := (1 : Int32)) hx hb dX10_does_171 (by decide) ?_
            refine lv_iadd hx hb dX10_does_172 ?_
            obtain ⟨hin, h⟩ := h
            refine va_iald hx hb hKn.k hP 7 0 rfl rfl hin dX10_does_173 ?_
            refine qc_vv (As := [.int (q 13 (Int32.toNatClampNeg (y1 + (1 : Int32))))]) (rest := []) ⟨hx, hb, hml, hown, hts⟩ (mX10_dropsContract l G _ _ a q _ (q 13 (Int32.toNatClampNeg (y1 + (1 : Int32))))) (cwV 1 hts gX10_does_X10_dropsContract rfl rfl rfl (by decide +kernel) ⟨Nat.le_of_ble_eq_true rfl, Nat.le_of_ble_eq_true rfl⟩) hP hD hS hA hKn 0 10 rfl rfl rfl h rfl hl.1 rfl (Nat.le_of_ble_eq_true rfl) dX10_does_174 ⟨Nat.zero_le _, Nat.zero_le _⟩ (fun q11 H locs h hP hD hS => ?_)
            have hP : va_P G.1 vwCl (wM G a q11 ++ R) H := hP
            have hD : va_D A (wM G a q11 ++ R) := hD
            refine lv_goto (tgt := 205) hx hb dX10_does_177 (by decide) ?_
            exact kX10_does_b205 hx hb hml hown hts hA hKn hret q11 _ _ _ h hP hD hS (lv_sub hl [] rfl)
          · skip
            refine lv_lookup (tgt := 197) (off := 186) hx hb dX10_does_11 (by decide) (by have gc99 : ¬ 99 = ((q 13 (Int32.toNatClampNeg y1))).toInt := fun z9 => q_ti _ (99) c99 z9.symm; have gc100 : ¬ 100 = ((q 13 (Int32.toNatClampNeg y1))).toInt := fun z9 => q_ti _ (100) c100 z9.symm; have gc102 : ¬ 102 = ((q 13 (Int32.toNatClampNeg y1))).toInt := fun z9 => q_ti _ (102) c102 z9.symm; have gc103 : ¬ 103 = ((q 13 (Int32.toNatClampNeg y1))).toInt := fun z9 => q_ti _ (103) c103 z9.symm; have gc120 : ¬ 120 = ((q 13 (Int32.toNatClampNeg y1))).toInt := fun z9 => q_ti _ (120) c120 z9.symm; simp [Op.lookupswitch.offset, gc99, gc100, gc102, gc103, gc120]) (by decide) ?_
            have h := h.2.2.2.2.2 c99 c100 c102 c103 c120
            refine lv_aload_n hx hb dX10_does_197 rfl (lv_at hl 1 rfl) ?_
            refine va_get (D := G.1) (ci := 10) (v := .ref (a 1)) (C := RX10) (T := TX10) (N := 15) hx hb hts iX10_does_X10 hown hKn.k hP 0 rfl rfl 1 (by decide) (hts _ lX10_does_f7) (fun _ h9 => h9) rfl dX10_does_198 ?_
            refine lv_bipush (v := (10 : Int32)) hx hb dX10_does_201 (by decide) ?_
            refine lv_iconst (v := (0 : Int32)) hx hb dX10_does_203 (by decide) ?_
            refine va_iast hx hb hKn.k hP hD hS 1 0 rfl rfl (by unfold vp_in; decide) dX10_does_204 (fun H locs hP hD hS => ?_)
            obtain ⟨q12, eq12⟩ : ∃ z : qS, z = up2 q 1 10 (0 : Int32) := ⟨_, rfl⟩
            have hP : va_P G.1 vwCl (wM G a q12 ++ R) H := by rw [eq12]; exact hP
            have hD : va_D A (wM G a q12 ++ R) := by rw [eq12]; exact hD
            have h := h q12 eq12
            exact kX10_does_b205 hx hb hml hown hts hA hKn hret q12 _ _ _ h hP hD hS (lv_sub hl [] rfl)
abbrev rmX10_carryOut : Room := { frames := 6, cells := 0, slots := 0, locals := 135 }
theorem lX10_carryOut_f144 : Cond.fieldLink RX10 144 "QuarryBlendsModel" "length" "I" ∈ wsX10_carryOut := by decide +kernel
theorem lX10_carryOut_f169 : Cond.fieldLink RX10 169 "QuarryBlendsModel" "orderMany" "I" ∈ wsX10_carryOut := by decide +kernel
theorem lX10_carryOut_f32 : Cond.fieldLink RX10 32 "QuarryBlendsModel" "thrown" "I" ∈ wsX10_carryOut := by decide +kernel
theorem iX10_carryOut_X10 : ∀ w ∈ wsX100, w ∈ wsX10_carryOut := by decide +kernel
set_option maxHeartbeats 4000000 in
set_option maxRecDepth 100000 in
theorem kX10_carryOut_b28 {p : Program} {l : Launch} {e : Env} {s : State} {m : MethodId} {args : Array Value} {below : List Frame} {meth : Method} {c : Code} {G : qG} {A : Nat → Prop} {Qf : State → Prop} {R : va_W} {a : Nat → Nat} {k : Int32 → qS → Prop} (hx : p.tables.exec = Jvm.exec) (hb : c.code = cX10_carryOut) (hml : c.maxLocals = 2) (hown : s.vm.findClass RX10 = some m.cls) (hts : ∀ w ∈ wsX10_carryOut, w.before args s = true) (hA : ∀ q : Nat, s.heap.size ≤ q → A q) (hKn : qKn G A s s.heap) (hret : ∀ (r : Int32) (q : qS) (H : Heap) (locs : List Loc) (ls : Array Slot) (pc : Nat), k r q → va_P G.1 vwCl (wM G a q ++ R) H → va_D A (wM G a q ++ R) → va_S A s.heap H locs → decode cX10_carryOut pc = .ok (.ireturn, 1) → W p l e rmX10_carryOut s m args below meth c H locs 0 0 Qf (F0 m pc ls [.int r])) : ∀ (n : Nat) (q : qS) (x1 : Int32) (H : Heap) (locs : List Loc) (ls : Array Slot), wX10_carryOut_b28 k n q x1 → va_P G.1 vwCl (wM G a q ++ R) H → va_D A (wM G a q ++ R) → va_S A s.heap H locs → lv_has ls 2 [(0, .ref (a 0)), (1, .int x1)] → W p l e rmX10_carryOut s m args below meth c H locs 0 0 Qf (F0 m 28 ls []) := by
  intro n
  induction n with
  | zero => intros; rename_i h _ _ _ _; exact h.elim
  | succ n ih =>
    intro q x1 H locs ls h hP hD hS hl
    unfold wX10_carryOut_b28 at h
    refine lv_iload_n hx hb dX10_carryOut_28 rfl (lv_at hl 1 rfl) ?_
    refine lv_aload_n hx hb dX10_carryOut_29 rfl (lv_at hl 0 rfl) ?_
    refine va_get (D := G.1) (ci := 10) (v := .int (q 0 14)) (C := RX10) (T := TX10) (N := 15) hx hb hts iX10_carryOut_X10 hown hKn.k hP 0 rfl rfl 14 (by decide) (hts _ lX10_carryOut_f169) (fun _ h9 => h9) rfl dX10_carryOut_30 ?_
    refine lv_icmp_ge (tgt := 57) hx hb dX10_carryOut_33 (by decide) (fun c1 => ?_) (fun c1 => ?_)
    · have h := h.1 c1
      refine lv_aload_n hx hb dX10_carryOut_57 rfl (lv_at hl 0 rfl) ?_
      refine va_get (D := G.1) (ci := 10) (v := .int (q 0 14)) (C := RX10) (T := TX10) (N := 15) hx hb hts iX10_carryOut_X10 hown hKn.k hP 0 rfl rfl 14 (by decide) (hts _ lX10_carryOut_f169) (fun _ h9 => h9) rfl dX10_carryOut_58 ?_
      exact hret _ _ _ _ _ _ h hP hD hS dX10_carryOut_61
    · have h := h.2 c1
      refine lv_aload_n hx hb dX10_carryOut_36 rfl (lv_at hl 0 rfl) ?_
      refine lv_iload_n hx hb dX10_carryOut_37 rfl (lv_at hl 1 rfl) ?_
      refine qc_vi (As := [.int x1]) (rest := []) ⟨hx, hb, hml, hown, hts⟩ (mX10_refuses l G _ _ a q _ x1) (cwV 1 hts gX10_carryOut_X10_refuses rfl rfl rfl (by decide +kernel) ⟨Nat.le_of_ble_eq_true rfl, Nat.le_of_ble_eq_true rfl⟩) hP hD hS hA hKn 0 10 rfl rfl rfl h rfl hl.1 rfl (Nat.le_of_ble_eq_true rfl) dX10_carryOut_38 ⟨Nat.zero_le _, Nat.zero_le _⟩ (fun r1 q2 H locs h hP hD hS => ?_)
      have hP : va_P G.1 vwCl (wM G a q2 ++ R) H := hP
      have hD : va_D A (wM G a q2 ++ R) := hD
      refine lv_if_eq (tgt := 46) hx hb dX10_carryOut_41 (by decide) (fun c1 => ?_) (fun c1 => ?_)
      · have h := h.1 c1
        refine lv_aload_n hx hb dX10_carryOut_46 rfl (lv_at hl 0 rfl) ?_
        refine lv_iload_n hx hb dX10_carryOut_47 rfl (lv_at hl 1 rfl) ?_
        refine qc_vv (As := [.int x1]) (rest := []) ⟨hx, hb, hml, hown, hts⟩ (mX10_does l G _ _ a q2 _ x1) (cwV 1 hts gX10_carryOut_X10_does rfl rfl rfl (by decide +kernel) ⟨Nat.le_of_ble_eq_true rfl, Nat.le_of_ble_eq_true rfl⟩) hP hD hS hA hKn 0 10 rfl rfl rfl h rfl hl.1 rfl (Nat.le_of_ble_eq_true rfl) dX10_carryOut_48 ⟨Nat.zero_le _, Nat.zero_le _⟩ (fun q4 H locs h hP hD hS => ?_)
        have hP : va_P G.1 vwCl (wM G a q4 ++ R) H := hP
        have hD : va_D A (wM G a q4 ++ R) := hD
        obtain ⟨y5, ey5⟩ : ∃ z : Int32, z = x1 + (1 : Int32) := ⟨_, rfl⟩
        have h := h y5 ey5
        refine lv_iinc (v := y5) (lv' := [(1, .int y5), (0, .ref (a 0))]) hx hb dX10_carryOut_51 hl (k := 1) rfl (by rw [ey5]; rfl) (by decide) rfl (fun ls hl => ?_)
        refine lv_goto (tgt := 28) hx hb dX10_carryOut_54 (by decide) ?_
        exact ih q4 y5 _ _ _ h hP hD hS (lv_sub hl [1, 0] rfl)
      · have h := h.2 c1
        refine lv_iload_n hx hb dX10_carryOut_44 rfl (lv_at hl 1 rfl) ?_
        exact hret _ _ _ _ _ _ h hP hD hS dX10_carryOut_45
set_option maxHeartbeats 4000000 in
set_option maxRecDepth 100000 in
theorem mX10_carryOut (l : Launch) (G : qG) (k : Int32 → qS → Prop) (R : va_W) (a : Nat → Nat) (q : qS) (sz : Nat) : Met l yX10_carryOut wsX10_carryOut rmX10_carryOut (qPc G [.ref (a 0)] (wM G a q ++ R) sz (wX10_carryOut k q)) (qQi G (wM G a q ++ R) sz (fun (r : Int32) (u : qS) => k r u) (fun (u : qS) => wM G a u ++ R)) 0 0 (va_A (wM G a q ++ R) sz) := by
  refine Met.ofW (cc := cX10_carryOut) (maxL := 2) (ret := (some .int)) (by decide) rfl ?_
  intro p e s m args below meth c s₁ B hml hv
  obtain ⟨rfl, hsz, hP, hD0, hKn0, h⟩ := hv
  have hx := B.exec
  have hb := B.bytes
  have hr := B.returns
  have hts := atoms_spec (ws := wsX10_carryOut) B.pre
  have hown : s.vm.findClass RX10 = some m.cls := findClass_of_methodNamed B.named
  have hlocks := B.notSynchronized
  subst hsz
  have hD := hD0.self (sz := s.heap.size)
  generalize hAe : va_A (wM G a q ++ R) s.heap.size = A at hD hKn0 ⊢
  have hA : ∀ q : Nat, s.heap.size ≤ q → A q := fun q h => by rw [← hAe]; exact Or.inr h
  have hKn : qKn G A s s.heap := hKn0
  have hS : va_S A s.heap s.heap [] := va_S.rf
  have hret : ∀ (r : Int32) (q' : qS) (H : Heap) (locs : List Loc) (ls : Array Slot) (pc : Nat), k r q' → va_P G.1 vwCl (wM G a q' ++ R) H → va_D A (wM G a q' ++ R) → va_S A s.heap H locs → decode cX10_carryOut pc = .ok (.ireturn, 1) → W p l e rmX10_carryOut s m #[.ref (a 0)] below meth c H locs 0 0 (MQ below (qQi G (wM G a q ++ R) s.heap.size (fun (r : Int32) (u : qS) => k r u) (fun (u : qS) => wM G a u ++ R)) #[.ref (a 0)] s 0 0 A) (F0 m pc ls [.int r]) := fun r q' H locs ls pc hk hP hD hS hd => W.iret hx hb hr (fun t ht hW => q_ri (u := (q' : qS)) hAe hk hP hD hS ht) hS.2.2 hd
  have hl := lv_entry ([.ref (a 0)]) (n := 2) (Nat.le_of_ble_eq_true rfl)
  rw [lg_entry_eq]
  generalize (lg_sl ([.ref (a 0)]) ++ List.replicate (2 - (lg_sl ([.ref (a 0)])).length) Slot.unset).toArray = ls at hl ⊢
  have hl : lv_has ls 2 [(0, .ref (a 0))] := hl
  unfold wX10_carryOut at h
  show W p l e rmX10_carryOut s m #[.ref (a 0)] below meth c s.heap [] 0 0 _ _
  refine lv_aload_n hx hb dX10_carryOut_0 rfl (lv_at hl 0 rfl) ?_
  refine lv_iconst (v := (0 : Int32)) hx hb dX10_carryOut_1 (by decide) ?_
  refine va_put (D := G.1) (ci := 10) (v := .int (0 : Int32)) (ty := .int) (C := RX10) (T := TX10) (N := 15) hx hb hts iX10_carryOut_X10 tyX10 tyX10_ok nmX10 hown hKn.k hP hD hS 0 rfl rfl 0 (by decide) (hts _ lX10_carryOut_f32) (fun _ h9 => h9) rfl (by decide +kernel) rfl rfl (Nat.le_of_ble_eq_true rfl) dX10_carryOut_2 (fun H locs hP hD hS => ?_)
  obtain ⟨q6, eq6⟩ : ∃ z : qS, z = up2 q 0 0 (0 : Int32) := ⟨_, rfl⟩
  have hP : va_P G.1 vwCl (wM G a q6 ++ R) H := by rw [eq6]; exact hP
  have hD : va_D A (wM G a q6 ++ R) := by rw [eq6]; exact hD
  have h := h q6 eq6
  refine lv_aload_n hx hb dX10_carryOut_5 rfl (lv_at hl 0 rfl) ?_
  refine qc_vi (As := []) (rest := []) ⟨hx, hb, hml, hown, hts⟩ (mX10_reads l G _ _ a q6 _ ) (cwV 0 hts gX10_carryOut_X10_reads rfl rfl rfl (by decide +kernel) ⟨Nat.le_of_ble_eq_true rfl, Nat.le_of_ble_eq_true rfl⟩) hP hD hS hA hKn 0 10 rfl rfl rfl h rfl hl.1 rfl (Nat.le_of_ble_eq_true rfl) dX10_carryOut_6 ⟨Nat.zero_le _, Nat.zero_le _⟩ (fun r7 q8 H locs h hP hD hS => ?_)
  have hP : va_P G.1 vwCl (wM G a q8 ++ R) H := hP
  have hD : va_D A (wM G a q8 ++ R) := hD
  refine lv_bipush (v := (-6 : Int32)) hx hb dX10_carryOut_9 (by decide) ?_
  refine lv_icmp_eq (tgt := 17) hx hb dX10_carryOut_11 (by decide) (fun c1 => ?_) (fun c1 => ?_)
  · have h := h.1 c1
    refine lv_aload_n hx hb dX10_carryOut_17 rfl (lv_at hl 0 rfl) ?_
    refine qc_vv (As := []) (rest := []) ⟨hx, hb, hml, hown, hts⟩ (mX10_records l G _ _ a q8 _ ) (cwV 0 hts gX10_carryOut_X10_records rfl rfl rfl (by decide +kernel) ⟨Nat.le_of_ble_eq_true rfl, Nat.le_of_ble_eq_true rfl⟩) hP hD hS hA hKn 0 10 rfl rfl rfl h rfl hl.1 rfl (Nat.le_of_ble_eq_true rfl) dX10_carryOut_18 ⟨Nat.zero_le _, Nat.zero_le _⟩ (fun q10 H locs h hP hD hS => ?_)
    have hP : va_P G.1 vwCl (wM G a q10 ++ R) H := hP
    have hD : va_D A (wM G a q10 ++ R) := hD
    refine lv_aload_n hx hb dX10_carryOut_21 rfl (lv_at hl 0 rfl) ?_
    refine lv_iconst (v := (0 : Int32)) hx hb dX10_carryOut_22 (by decide) ?_
    refine va_put (D := G.1) (ci := 10) (v := .int (0 : Int32)) (ty := .int) (C := RX10) (T := TX10) (N := 15) hx hb hts iX10_carryOut_X10 tyX10 tyX10_ok nmX10 hown hKn.k hP hD hS 0 rfl rfl 8 (by decide) (hts _ lX10_carryOut_f144) (fun _ h9 => h9) rfl (by decide +kernel) rfl rfl (Nat.le_of_ble_eq_true rfl) dX10_carryOut_23 (fun H locs hP hD hS => ?_)
    obtain ⟨q11, eq11⟩ : ∃ z : qS, z = up2 q10 0 8 (0 : Int32) := ⟨_, rfl⟩
    have hP : va_P G.1 vwCl (wM G a q11 ++ R) H := by rw [eq11]; exact hP
    have hD : va_D A (wM G a q11 ++ R) := by rw [eq11]; exact hD
    have h := h q11 eq11
    refine lv_iconst (v := (0 : Int32)) hx hb dX10_carryOut_26 (by decide) ?_
    refine lv_istore_n (lv' := [(1, .int (0 : Int32)), (0, .ref (a 0))]) hx hb dX10_carryOut_27 rfl hl (by decide) rfl (fun ls hl => ?_)
    obtain ⟨n12, h⟩ := h
    exact kX10_carryOut_b28 hx hb hml hown hts hA hKn hret n12 q11 (0 : Int32) _ _ _ h hP hD hS (lv_sub hl [1, 0] rfl)
  · have h := h.2 c1
    refine lv_bipush (v := (-3 : Int32)) hx hb dX10_carryOut_14 (by decide) ?_
    exact hret _ _ _ _ _ _ h hP hD hS dX10_carryOut_16
abbrev rmX10_undo : Room := { frames := 0, cells := 0, slots := 0, locals := 0 }
theorem lX10_undo_f16 : Cond.fieldLink RX10 16 "QuarryBlendsModel" "undos" "[I" ∈ wsX10_undo := by decide +kernel
theorem lX10_undo_f32 : Cond.fieldLink RX10 32 "QuarryBlendsModel" "thrown" "I" ∈ wsX10_undo := by decide +kernel
theorem lX10_undo_f36 : Cond.fieldLink RX10 36 "QuarryBlendsModel" "undoMany" "I" ∈ wsX10_undo := by decide +kernel
theorem lX10_undo_f7 : Cond.fieldLink RX10 7 "QuarryBlendsModel" "s" "[I" ∈ wsX10_undo := by decide +kernel
theorem iX10_undo_X10 : ∀ w ∈ wsX100, w ∈ wsX10_undo := by decide +kernel
set_option maxHeartbeats 4000000 in
set_option maxRecDepth 100000 in
theorem kX10_undo_b27 {p : Program} {l : Launch} {e : Env} {s : State} {m : MethodId} {args : Array Value} {below : List Frame} {meth : Method} {c : Code} {G : qG} {A : Nat → Prop} {Qf : State → Prop} {R : va_W} {a : Nat → Nat} {k : Int32 → qS → Prop} (hx : p.tables.exec = Jvm.exec) (hb : c.code = cX10_undo) (hml : c.maxLocals = 2) (hown : s.vm.findClass RX10 = some m.cls) (hts : ∀ w ∈ wsX10_undo, w.before args s = true) (hA : ∀ q : Nat, s.heap.size ≤ q → A q) (hKn : qKn G A s s.heap) (hret : ∀ (r : Int32) (q : qS) (H : Heap) (locs : List Loc) (ls : Array Slot) (pc : Nat), k r q → va_P G.1 vwCl (wM G a q ++ R) H → va_D A (wM G a q ++ R) → va_S A s.heap H locs → decode cX10_undo pc = .ok (.ireturn, 1) → W p l e rmX10_undo s m args below meth c H locs 0 0 Qf (F0 m pc ls [.int r])) : ∀ (n : Nat) (q : qS) (x1 : Int32) (H : Heap) (locs : List Loc) (ls : Array Slot), wX10_undo_b27 k n q x1 → va_P G.1 vwCl (wM G a q ++ R) H → va_D A (wM G a q ++ R) → va_S A s.heap H locs → lv_has ls 2 [(0, .ref (a 0)), (1, .int x1)] → W p l e rmX10_undo s m args below meth c H locs 0 0 Qf (F0 m 27 ls []) := by
  intro n
  induction n with
  | zero => intros; rename_i h _ _ _ _; exact h.elim
  | succ n ih =>
    intro q x1 H locs ls h hP hD hS hl
    unfold wX10_undo_b27 at h
    refine lv_iload_n hx hb dX10_undo_27 rfl (lv_at hl 1 rfl) ?_
    refine lv_sipush (v := (210 : Int32)) hx hb dX10_undo_28 (by decide) ?_
    refine lv_icmp_ge (tgt := 61) hx hb dX10_undo_31 (by decide) (fun c1 => ?_) (fun c1 => ?_)
    · have h := h.1 c1
      refine lv_aload_n hx hb dX10_undo_61 rfl (lv_at hl 0 rfl) ?_
      refine va_get (D := G.1) (ci := 10) (v := .int (q 0 4)) (C := RX10) (T := TX10) (N := 15) hx hb hts iX10_undo_X10 hown hKn.k hP 0 rfl rfl 4 (by decide) (hts _ lX10_undo_f36) (fun _ h9 => h9) rfl dX10_undo_62 ?_
      exact hret _ _ _ _ _ _ h hP hD hS dX10_undo_65
    · have h := h.2 c1
      refine lv_aload_n hx hb dX10_undo_34 rfl (lv_at hl 0 rfl) ?_
      refine va_get (D := G.1) (ci := 10) (v := .ref (a 1)) (C := RX10) (T := TX10) (N := 15) hx hb hts iX10_undo_X10 hown hKn.k hP 0 rfl rfl 1 (by decide) (hts _ lX10_undo_f7) (fun _ h9 => h9) rfl dX10_undo_35 ?_
      refine lv_iload_n hx hb dX10_undo_38 rfl (lv_at hl 1 rfl) ?_
      refine lv_aload_n hx hb dX10_undo_39 rfl (lv_at hl 0 rfl) ?_
      refine va_get (D := G.1) (ci := 10) (v := .ref (a 3)) (C := RX10) (T := TX10) (N := 15) hx hb hts iX10_undo_X10 hown hKn.k hP 0 rfl rfl 3 (by decide) (hts _ lX10_undo_f16) (fun _ h9 => h9) rfl dX10_undo_40 ?_
      refine lv_sipush (v := (210 : Int32)) hx hb dX10_undo_43 (by decide) ?_
      refine lv_aload_n hx hb dX10_undo_46 rfl (lv_at hl 0 rfl) ?_
      refine va_get (D := G.1) (ci := 10) (v := .int (q 0 4)) (C := RX10) (T := TX10) (N := 15) hx hb hts iX10_undo_X10 hown hKn.k hP 0 rfl rfl 4 (by decide) (hts _ lX10_undo_f36) (fun _ h9 => h9) rfl dX10_undo_47 ?_
      refine lv_imul hx hb dX10_undo_50 ?_
      refine lv_iload_n hx hb dX10_undo_51 rfl (lv_at hl 1 rfl) ?_
      refine lv_iadd hx hb dX10_undo_52 ?_
      obtain ⟨hin, h⟩ := h
      refine va_iald hx hb hKn.k hP 3 0 rfl rfl hin dX10_undo_53 ?_
      refine lv_topi (fun y1 ey1 => ?_)
      have h := h y1 ey1
      obtain ⟨hin, h⟩ := h
      refine va_iast hx hb hKn.k hP hD hS 1 0 rfl rfl hin dX10_undo_54 (fun H locs hP hD hS => ?_)
      obtain ⟨q2, eq2⟩ : ∃ z : qS, z = up2 q 1 (Int32.toNatClampNeg x1) y1 := ⟨_, rfl⟩
      have hP : va_P G.1 vwCl (wM G a q2 ++ R) H := by rw [eq2]; exact hP
      have hD : va_D A (wM G a q2 ++ R) := by rw [eq2]; exact hD
      have h := h q2 eq2
      obtain ⟨y3, ey3⟩ : ∃ z : Int32, z = x1 + (1 : Int32) := ⟨_, rfl⟩
      have h := h y3 ey3
      refine lv_iinc (v := y3) (lv' := [(1, .int y3), (0, .ref (a 0))]) hx hb dX10_undo_55 hl (k := 1) rfl (by rw [ey3]; rfl) (by decide) rfl (fun ls hl => ?_)
      refine lv_goto (tgt := 27) hx hb dX10_undo_58 (by decide) ?_
      exact ih q2 y3 _ _ _ h hP hD hS (lv_sub hl [1, 0] rfl)
set_option maxHeartbeats 4000000 in
set_option maxRecDepth 100000 in
theorem mX10_undo (l : Launch) (G : qG) (k : Int32 → qS → Prop) (R : va_W) (a : Nat → Nat) (q : qS) (sz : Nat) : Met l yX10_undo wsX10_undo rmX10_undo (qPc G [.ref (a 0)] (wM G a q ++ R) sz (wX10_undo k q)) (qQi G (wM G a q ++ R) sz (fun (r : Int32) (u : qS) => k r u) (fun (u : qS) => wM G a u ++ R)) 0 0 (va_A (wM G a q ++ R) sz) := by
  refine Met.ofW (cc := cX10_undo) (maxL := 2) (ret := (some .int)) (by decide) rfl ?_
  intro p e s m args below meth c s₁ B hml hv
  obtain ⟨rfl, hsz, hP, hD0, hKn0, h⟩ := hv
  have hx := B.exec
  have hb := B.bytes
  have hr := B.returns
  have hts := atoms_spec (ws := wsX10_undo) B.pre
  have hown : s.vm.findClass RX10 = some m.cls := findClass_of_methodNamed B.named
  have hlocks := B.notSynchronized
  subst hsz
  have hD := hD0.self (sz := s.heap.size)
  generalize hAe : va_A (wM G a q ++ R) s.heap.size = A at hD hKn0 ⊢
  have hA : ∀ q : Nat, s.heap.size ≤ q → A q := fun q h => by rw [← hAe]; exact Or.inr h
  have hKn : qKn G A s s.heap := hKn0
  have hS : va_S A s.heap s.heap [] := va_S.rf
  have hret : ∀ (r : Int32) (q' : qS) (H : Heap) (locs : List Loc) (ls : Array Slot) (pc : Nat), k r q' → va_P G.1 vwCl (wM G a q' ++ R) H → va_D A (wM G a q' ++ R) → va_S A s.heap H locs → decode cX10_undo pc = .ok (.ireturn, 1) → W p l e rmX10_undo s m #[.ref (a 0)] below meth c H locs 0 0 (MQ below (qQi G (wM G a q ++ R) s.heap.size (fun (r : Int32) (u : qS) => k r u) (fun (u : qS) => wM G a u ++ R)) #[.ref (a 0)] s 0 0 A) (F0 m pc ls [.int r]) := fun r q' H locs ls pc hk hP hD hS hd => W.iret hx hb hr (fun t ht hW => q_ri (u := (q' : qS)) hAe hk hP hD hS ht) hS.2.2 hd
  have hl := lv_entry ([.ref (a 0)]) (n := 2) (Nat.le_of_ble_eq_true rfl)
  rw [lg_entry_eq]
  generalize (lg_sl ([.ref (a 0)]) ++ List.replicate (2 - (lg_sl ([.ref (a 0)])).length) Slot.unset).toArray = ls at hl ⊢
  have hl : lv_has ls 2 [(0, .ref (a 0))] := hl
  unfold wX10_undo at h
  show W p l e rmX10_undo s m #[.ref (a 0)] below meth c s.heap [] 0 0 _ _
  refine lv_aload_n hx hb dX10_undo_0 rfl (lv_at hl 0 rfl) ?_
  refine lv_iconst (v := (0 : Int32)) hx hb dX10_undo_1 (by decide) ?_
  refine va_put (D := G.1) (ci := 10) (v := .int (0 : Int32)) (ty := .int) (C := RX10) (T := TX10) (N := 15) hx hb hts iX10_undo_X10 tyX10 tyX10_ok nmX10 hown hKn.k hP hD hS 0 rfl rfl 0 (by decide) (hts _ lX10_undo_f32) (fun _ h9 => h9) rfl (by decide +kernel) rfl rfl (Nat.le_of_ble_eq_true rfl) dX10_undo_2 (fun H locs hP hD hS => ?_)
  obtain ⟨q4, eq4⟩ : ∃ z : qS, z = up2 q 0 0 (0 : Int32) := ⟨_, rfl⟩
  have hP : va_P G.1 vwCl (wM G a q4 ++ R) H := by rw [eq4]; exact hP
  have hD : va_D A (wM G a q4 ++ R) := by rw [eq4]; exact hD
  have h := h q4 eq4
  refine lv_aload_n hx hb dX10_undo_5 rfl (lv_at hl 0 rfl) ?_
  refine va_get (D := G.1) (ci := 10) (v := .int (q4 0 4)) (C := RX10) (T := TX10) (N := 15) hx hb hts iX10_undo_X10 hown hKn.k hP 0 rfl rfl 4 (by decide) (hts _ lX10_undo_f36) (fun _ h9 => h9) rfl dX10_undo_6 ?_
  refine lv_if_ne (tgt := 15) hx hb dX10_undo_9 (by decide) (fun c1 => ?_) (fun c1 => ?_)
  · have h := h.1 c1
    refine lv_aload_n hx hb dX10_undo_15 rfl (lv_at hl 0 rfl) ?_
    refine lv_dup hx hb dX10_undo_16 rfl ?_
    refine va_get (D := G.1) (ci := 10) (v := .int (q4 0 4)) (C := RX10) (T := TX10) (N := 15) hx hb hts iX10_undo_X10 hown hKn.k hP 0 rfl rfl 4 (by decide) (hts _ lX10_undo_f36) (fun _ h9 => h9) rfl dX10_undo_17 ?_
    refine lv_iconst (v := (1 : Int32)) hx hb dX10_undo_20 (by decide) ?_
    refine lv_isub hx hb dX10_undo_21 ?_
    refine lv_topi (fun y5 ey5 => ?_)
    have h := h y5 ey5
    refine va_put (D := G.1) (ci := 10) (v := .int y5) (ty := .int) (C := RX10) (T := TX10) (N := 15) hx hb hts iX10_undo_X10 tyX10 tyX10_ok nmX10 hown hKn.k hP hD hS 0 rfl rfl 4 (by decide) (hts _ lX10_undo_f36) (fun _ h9 => h9) rfl (by decide +kernel) rfl rfl (Nat.le_of_ble_eq_true rfl) dX10_undo_22 (fun H locs hP hD hS => ?_)
    obtain ⟨q6, eq6⟩ : ∃ z : qS, z = up2 q4 0 4 y5 := ⟨_, rfl⟩
    have hP : va_P G.1 vwCl (wM G a q6 ++ R) H := by rw [eq6]; exact hP
    have hD : va_D A (wM G a q6 ++ R) := by rw [eq6]; exact hD
    have h := h q6 eq6
    refine lv_iconst (v := (0 : Int32)) hx hb dX10_undo_25 (by decide) ?_
    refine lv_istore_n (lv' := [(1, .int (0 : Int32)), (0, .ref (a 0))]) hx hb dX10_undo_26 rfl hl (by decide) rfl (fun ls hl => ?_)
    obtain ⟨n7, h⟩ := h
    exact kX10_undo_b27 hx hb hml hown hts hA hKn hret n7 q6 (0 : Int32) _ _ _ h hP hD hS (lv_sub hl [1, 0] rfl)
  · have h := h.2 c1
    refine lv_bipush (v := (-5 : Int32)) hx hb dX10_undo_12 (by decide) ?_
    exact hret _ _ _ _ _ _ h hP hD hS dX10_undo_14
abbrev rmX10_save : Room := { frames := 1, cells := 0, slots := 0, locals := 22 }
theorem lX10_save_f19 : Cond.fieldLink RX10 19 "QuarryBlendsModel" "slots" "[I" ∈ wsX10_save := by decide +kernel
theorem lX10_save_f22 : Cond.fieldLink RX10 22 "QuarryBlendsModel" "hasSlot" "[Z" ∈ wsX10_save := by decide +kernel
theorem lX10_save_f32 : Cond.fieldLink RX10 32 "QuarryBlendsModel" "thrown" "I" ∈ wsX10_save := by decide +kernel
theorem lX10_save_f7 : Cond.fieldLink RX10 7 "QuarryBlendsModel" "s" "[I" ∈ wsX10_save := by decide +kernel
theorem iX10_save_X10 : ∀ w ∈ wsX100, w ∈ wsX10_save := by decide +kernel
set_option maxHeartbeats 4000000 in
set_option maxRecDepth 100000 in
theorem kX10_save_b19 {p : Program} {l : Launch} {e : Env} {s : State} {m : MethodId} {args : Array Value} {below : List Frame} {meth : Method} {c : Code} {G : qG} {A : Nat → Prop} {Qf : State → Prop} {R : va_W} {a : Nat → Nat} {k : Int32 → qS → Prop} (hx : p.tables.exec = Jvm.exec) (hb : c.code = cX10_save) (hml : c.maxLocals = 3) (hown : s.vm.findClass RX10 = some m.cls) (hts : ∀ w ∈ wsX10_save, w.before args s = true) (hA : ∀ q : Nat, s.heap.size ≤ q → A q) (hKn : qKn G A s s.heap) (hret : ∀ (r : Int32) (q : qS) (H : Heap) (locs : List Loc) (ls : Array Slot) (pc : Nat), k r q → va_P G.1 vwCl (wM G a q ++ R) H → va_D A (wM G a q ++ R) → va_S A s.heap H locs → decode cX10_save pc = .ok (.ireturn, 1) → W p l e rmX10_save s m args below meth c H locs 0 0 Qf (F0 m pc ls [.int r])) : ∀ (n : Nat) (q : qS) (x1 : Int32) (x2 : Int32) (H : Heap) (locs : List Loc) (ls : Array Slot), wX10_save_b19 k n q x1 x2 → va_P G.1 vwCl (wM G a q ++ R) H → va_D A (wM G a q ++ R) → va_S A s.heap H locs → lv_has ls 3 [(0, .ref (a 0)), (1, .int x1), (2, .int x2)] → W p l e rmX10_save s m args below meth c H locs 0 0 Qf (F0 m 19 ls []) := by
  intro n
  induction n with
  | zero => intros; rename_i h _ _ _ _; exact h.elim
  | succ n ih =>
    intro q x1 x2 H locs ls h hP hD hS hl
    unfold wX10_save_b19 at h
    refine lv_iload_n hx hb dX10_save_19 rfl (lv_at hl 2 rfl) ?_
    refine lv_sipush (v := (210 : Int32)) hx hb dX10_save_20 (by decide) ?_
    refine lv_icmp_ge (tgt := 50) hx hb dX10_save_23 (by decide) (fun c1 => ?_) (fun c1 => ?_)
    · have h := h.1 c1
      refine lv_aload_n hx hb dX10_save_50 rfl (lv_at hl 0 rfl) ?_
      refine va_get (D := G.1) (ci := 10) (v := .ref (a 6)) (C := RX10) (T := TX10) (N := 15) hx hb hts iX10_save_X10 hown hKn.k hP 0 rfl rfl 6 (by decide) (hts _ lX10_save_f22) (fun _ h9 => h9) rfl dX10_save_51 ?_
      refine lv_iload_n hx hb dX10_save_54 rfl (lv_at hl 1 rfl) ?_
      refine lv_iconst (v := (1 : Int32)) hx hb dX10_save_55 (by decide) ?_
      obtain ⟨hin, h⟩ := h
      refine va_zast hx hb hKn.k hP hD hS 5 1 rfl rfl hin dX10_save_56 (fun H locs hP hD hS => ?_)
      obtain ⟨q1, eq1⟩ : ∃ z : qS, z = up2 q 6 (Int32.toNatClampNeg x1) (vp_nar .boolean (1 : Int32)) := ⟨_, rfl⟩
      have hP : va_P G.1 vwCl (wM G a q1 ++ R) H := by rw [eq1]; exact hP
      have hD : va_D A (wM G a q1 ++ R) := by rw [eq1]; exact hD
      have h := h q1 eq1
      refine lv_aload_n hx hb dX10_save_57 rfl (lv_at hl 0 rfl) ?_
      refine va_get (D := G.1) (ci := 10) (v := .ref (a 1)) (C := RX10) (T := TX10) (N := 15) hx hb hts iX10_save_X10 hown hKn.k hP 0 rfl rfl 1 (by decide) (hts _ lX10_save_f7) (fun _ h9 => h9) rfl dX10_save_58 ?_
      refine lv_bipush (v := (7 : Int32)) hx hb dX10_save_61 (by decide) ?_
      refine va_iald hx hb hKn.k hP 1 0 rfl rfl (by unfold vp_in; decide) dX10_save_63 ?_
      exact hret _ _ _ _ _ _ h hP hD hS dX10_save_64
    · have h := h.2 c1
      refine lv_aload_n hx hb dX10_save_26 rfl (lv_at hl 0 rfl) ?_
      refine va_get (D := G.1) (ci := 10) (v := .ref (a 5)) (C := RX10) (T := TX10) (N := 15) hx hb hts iX10_save_X10 hown hKn.k hP 0 rfl rfl 5 (by decide) (hts _ lX10_save_f19) (fun _ h9 => h9) rfl dX10_save_27 ?_
      refine lv_sipush (v := (210 : Int32)) hx hb dX10_save_30 (by decide) ?_
      refine lv_iload_n hx hb dX10_save_33 rfl (lv_at hl 1 rfl) ?_
      refine lv_imul hx hb dX10_save_34 ?_
      refine lv_iload_n hx hb dX10_save_35 rfl (lv_at hl 2 rfl) ?_
      refine lv_iadd hx hb dX10_save_36 ?_
      refine lv_aload_n hx hb dX10_save_37 rfl (lv_at hl 0 rfl) ?_
      refine va_get (D := G.1) (ci := 10) (v := .ref (a 1)) (C := RX10) (T := TX10) (N := 15) hx hb hts iX10_save_X10 hown hKn.k hP 0 rfl rfl 1 (by decide) (hts _ lX10_save_f7) (fun _ h9 => h9) rfl dX10_save_38 ?_
      refine lv_iload_n hx hb dX10_save_41 rfl (lv_at hl 2 rfl) ?_
      obtain ⟨hin, h⟩ := h
      refine va_iald hx hb hKn.k hP 1 0 rfl rfl hin dX10_save_42 ?_
      refine lv_topi (fun y2 ey2 => ?_)
      have h := h y2 ey2
      obtain ⟨hin, h⟩ := h
      refine va_iast hx hb hKn.k hP hD hS 4 0 rfl rfl hin dX10_save_43 (fun H locs hP hD hS => ?_)
      obtain ⟨q3, eq3⟩ : ∃ z : qS, z = up2 q 5 (Int32.toNatClampNeg (((210 : Int32) * x1) + x2)) y2 := ⟨_, rfl⟩
      have hP : va_P G.1 vwCl (wM G a q3 ++ R) H := by rw [eq3]; exact hP
      have hD : va_D A (wM G a q3 ++ R) := by rw [eq3]; exact hD
      have h := h q3 eq3
      obtain ⟨y4, ey4⟩ : ∃ z : Int32, z = x2 + (1 : Int32) := ⟨_, rfl⟩
      have h := h y4 ey4
      refine lv_iinc (v := y4) (lv' := [(2, .int y4), (0, .ref (a 0)), (1, .int x1)]) hx hb dX10_save_44 hl (k := 2) rfl (by rw [ey4]; rfl) (by decide) rfl (fun ls hl => ?_)
      refine lv_goto (tgt := 19) hx hb dX10_save_47 (by decide) ?_
      exact ih q3 x1 y4 _ _ _ h hP hD hS (lv_sub hl [1, 2, 0] rfl)
set_option maxHeartbeats 4000000 in
set_option maxRecDepth 100000 in
theorem mX10_save (l : Launch) (G : qG) (k : Int32 → qS → Prop) (R : va_W) (a : Nat → Nat) (q : qS) (sz : Nat) (p0 : Int32) : Met l yX10_save wsX10_save rmX10_save (qPc G [.ref (a 0), .int p0] (wM G a q ++ R) sz (wX10_save k q p0)) (qQi G (wM G a q ++ R) sz (fun (r : Int32) (u : qS) => k r u) (fun (u : qS) => wM G a u ++ R)) 0 0 (va_A (wM G a q ++ R) sz) := by
  refine Met.ofW (cc := cX10_save) (maxL := 3) (ret := (some .int)) (by decide) rfl ?_
  intro p e s m args below meth c s₁ B hml hv
  obtain ⟨rfl, hsz, hP, hD0, hKn0, h⟩ := hv
  have hx := B.exec
  have hb := B.bytes
  have hr := B.returns
  have hts := atoms_spec (ws := wsX10_save) B.pre
  have hown : s.vm.findClass RX10 = some m.cls := findClass_of_methodNamed B.named
  have hlocks := B.notSynchronized
  subst hsz
  have hD := hD0.self (sz := s.heap.size)
  generalize hAe : va_A (wM G a q ++ R) s.heap.size = A at hD hKn0 ⊢
  have hA : ∀ q : Nat, s.heap.size ≤ q → A q := fun q h => by rw [← hAe]; exact Or.inr h
  have hKn : qKn G A s s.heap := hKn0
  have hS : va_S A s.heap s.heap [] := va_S.rf
  have hret : ∀ (r : Int32) (q' : qS) (H : Heap) (locs : List Loc) (ls : Array Slot) (pc : Nat), k r q' → va_P G.1 vwCl (wM G a q' ++ R) H → va_D A (wM G a q' ++ R) → va_S A s.heap H locs → decode cX10_save pc = .ok (.ireturn, 1) → W p l e rmX10_save s m #[.ref (a 0), .int p0] below meth c H locs 0 0 (MQ below (qQi G (wM G a q ++ R) s.heap.size (fun (r : Int32) (u : qS) => k r u) (fun (u : qS) => wM G a u ++ R)) #[.ref (a 0), .int p0] s 0 0 A) (F0 m pc ls [.int r]) := fun r q' H locs ls pc hk hP hD hS hd => W.iret hx hb hr (fun t ht hW => q_ri (u := (q' : qS)) hAe hk hP hD hS ht) hS.2.2 hd
  have hl := lv_entry ([.ref (a 0), .int p0]) (n := 3) (Nat.le_of_ble_eq_true rfl)
  rw [lg_entry_eq]
  generalize (lg_sl ([.ref (a 0), .int p0]) ++ List.replicate (3 - (lg_sl ([.ref (a 0), .int p0])).length) Slot.unset).toArray = ls at hl ⊢
  have hl : lv_has ls 3 [(0, .ref (a 0)), (1, .int p0)] := hl
  unfold wX10_save at h
  show W p l e rmX10_save s m #[.ref (a 0), .int p0] below meth c s.heap [] 0 0 _ _
  refine lv_aload_n hx hb dX10_save_0 rfl (lv_at hl 0 rfl) ?_
  refine lv_iconst (v := (0 : Int32)) hx hb dX10_save_1 (by decide) ?_
  refine va_put (D := G.1) (ci := 10) (v := .int (0 : Int32)) (ty := .int) (C := RX10) (T := TX10) (N := 15) hx hb hts iX10_save_X10 tyX10 tyX10_ok nmX10 hown hKn.k hP hD hS 0 rfl rfl 0 (by decide) (hts _ lX10_save_f32) (fun _ h9 => h9) rfl (by decide +kernel) rfl rfl (Nat.le_of_ble_eq_true rfl) dX10_save_2 (fun H locs hP hD hS => ?_)
  obtain ⟨q5, eq5⟩ : ∃ z : qS, z = up2 q 0 0 (0 : Int32) := ⟨_, rfl⟩
  have hP : va_P G.1 vwCl (wM G a q5 ++ R) H := by rw [eq5]; exact hP
  have hD : va_D A (wM G a q5 ++ R) := by rw [eq5]; exact hD
  have h := h q5 eq5
  refine lv_iload_n hx hb dX10_save_5 rfl (lv_at hl 1 rfl) ?_
  refine lv_iconst (v := (0 : Int32)) hx hb dX10_save_6 (by decide) ?_
  refine lv_iconst (v := (1 : Int32)) hx hb dX10_save_7 (by decide) ?_
  refine qc_si (As := [.int p0, .int (0 : Int32), .int (1 : Int32)]) (rest := []) ⟨hx, hb, hml, hown, hts⟩ (mX10_in l G _ _ _ p0 (0 : Int32) (1 : Int32)) (cwS 3 hts gX10_save_X10_in rfl rfl rfl (by decide +kernel) ⟨Nat.le_of_ble_eq_true rfl, Nat.le_of_ble_eq_true rfl⟩) hP hD hS hA hKn h rfl hl.1 rfl (Nat.le_of_ble_eq_true rfl) dX10_save_8 ⟨Nat.zero_le _, Nat.zero_le _⟩ (fun r6 _ H locs h hP hD hS => ?_)
  have hP : va_P G.1 vwCl (wM G a q5 ++ R) H := hP
  have hD : va_D A (wM G a q5 ++ R) := hD
  refine lv_if_ne (tgt := 17) hx hb dX10_save_11 (by decide) (fun c1 => ?_) (fun c1 => ?_)
  · have h := h.1 c1
    refine lv_iconst (v := (0 : Int32)) hx hb dX10_save_17 (by decide) ?_
    refine lv_istore_n (lv' := [(2, .int (0 : Int32)), (0, .ref (a 0)), (1, .int p0)]) hx hb dX10_save_18 rfl hl (by decide) rfl (fun ls hl => ?_)
    obtain ⟨n7, h⟩ := h
    exact kX10_save_b19 hx hb hml hown hts hA hKn hret n7 q5 p0 (0 : Int32) _ _ _ h hP hD hS (lv_sub hl [1, 2, 0] rfl)
  · have h := h.2 c1
    refine lv_bipush (v := (-2 : Int32)) hx hb dX10_save_14 (by decide) ?_
    exact hret _ _ _ _ _ _ h hP hD hS dX10_save_16
abbrev rmX10_restore : Room := { frames := 1, cells := 0, slots := 0, locals := 22 }
theorem lX10_restore_f19 : Cond.fieldLink RX10 19 "QuarryBlendsModel" "slots" "[I" ∈ wsX10_restore := by decide +kernel
theorem lX10_restore_f22 : Cond.fieldLink RX10 22 "QuarryBlendsModel" "hasSlot" "[Z" ∈ wsX10_restore := by decide +kernel
theorem lX10_restore_f32 : Cond.fieldLink RX10 32 "QuarryBlendsModel" "thrown" "I" ∈ wsX10_restore := by decide +kernel
theorem lX10_restore_f7 : Cond.fieldLink RX10 7 "QuarryBlendsModel" "s" "[I" ∈ wsX10_restore := by decide +kernel
theorem iX10_restore_X10 : ∀ w ∈ wsX100, w ∈ wsX10_restore := by decide +kernel
set_option maxHeartbeats 4000000 in
set_option maxRecDepth 100000 in
theorem kX10_restore_b35 {p : Program} {l : Launch} {e : Env} {s : State} {m : MethodId} {args : Array Value} {below : List Frame} {meth : Method} {c : Code} {G : qG} {A : Nat → Prop} {Qf : State → Prop} {R : va_W} {a : Nat → Nat} {k : Int32 → qS → Prop} (hx : p.tables.exec = Jvm.exec) (hb : c.code = cX10_restore) (hml : c.maxLocals = 3) (hown : s.vm.findClass RX10 = some m.cls) (hts : ∀ w ∈ wsX10_restore, w.before args s = true) (hA : ∀ q : Nat, s.heap.size ≤ q → A q) (hKn : qKn G A s s.heap) (hret : ∀ (r : Int32) (q : qS) (H : Heap) (locs : List Loc) (ls : Array Slot) (pc : Nat), k r q → va_P G.1 vwCl (wM G a q ++ R) H → va_D A (wM G a q ++ R) → va_S A s.heap H locs → decode cX10_restore pc = .ok (.ireturn, 1) → W p l e rmX10_restore s m args below meth c H locs 0 0 Qf (F0 m pc ls [.int r])) : ∀ (n : Nat) (q : qS) (x1 : Int32) (x2 : Int32) (H : Heap) (locs : List Loc) (ls : Array Slot), wX10_restore_b35 k n q x1 x2 → va_P G.1 vwCl (wM G a q ++ R) H → va_D A (wM G a q ++ R) → va_S A s.heap H locs → lv_has ls 3 [(0, .ref (a 0)), (1, .int x1), (2, .int x2)] → W p l e rmX10_restore s m args below meth c H locs 0 0 Qf (F0 m 35 ls []) := by
  intro n
  induction n with
  | zero => intros; rename_i h _ _ _ _; exact h.elim
  | succ n ih =>
    intro q x1 x2 H locs ls h hP hD hS hl
    unfold wX10_restore_b35 at h
    refine lv_iload_n hx hb dX10_restore_35 rfl (lv_at hl 2 rfl) ?_
    refine lv_sipush (v := (210 : Int32)) hx hb dX10_restore_36 (by decide) ?_
    refine lv_icmp_ge (tgt := 66) hx hb dX10_restore_39 (by decide) (fun c1 => ?_) (fun c1 => ?_)
    · have h := h.1 c1
      refine lv_aload_n hx hb dX10_restore_66 rfl (lv_at hl 0 rfl) ?_
      refine va_get (D := G.1) (ci := 10) (v := .ref (a 1)) (C := RX10) (T := TX10) (N := 15) hx hb hts iX10_restore_X10 hown hKn.k hP 0 rfl rfl 1 (by decide) (hts _ lX10_restore_f7) (fun _ h9 => h9) rfl dX10_restore_67 ?_
      refine lv_bipush (v := (7 : Int32)) hx hb dX10_restore_70 (by decide) ?_
      refine va_iald hx hb hKn.k hP 1 0 rfl rfl (by unfold vp_in; decide) dX10_restore_72 ?_
      exact hret _ _ _ _ _ _ h hP hD hS dX10_restore_73
    · have h := h.2 c1
      refine lv_aload_n hx hb dX10_restore_42 rfl (lv_at hl 0 rfl) ?_
      refine va_get (D := G.1) (ci := 10) (v := .ref (a 1)) (C := RX10) (T := TX10) (N := 15) hx hb hts iX10_restore_X10 hown hKn.k hP 0 rfl rfl 1 (by decide) (hts _ lX10_restore_f7) (fun _ h9 => h9) rfl dX10_restore_43 ?_
      refine lv_iload_n hx hb dX10_restore_46 rfl (lv_at hl 2 rfl) ?_
      refine lv_aload_n hx hb dX10_restore_47 rfl (lv_at hl 0 rfl) ?_
      refine va_get (D := G.1) (ci := 10) (v := .ref (a 5)) (C := RX10) (T := TX10) (N := 15) hx hb hts iX10_restore_X10 hown hKn.k hP 0 rfl rfl 5 (by decide) (hts _ lX10_restore_f19) (fun _ h9 => h9) rfl dX10_restore_48 ?_
      refine lv_sipush (v := (210 : Int32)) hx hb dX10_restore_51 (by decide) ?_
      refine lv_iload_n hx hb dX10_restore_54 rfl (lv_at hl 1 rfl) ?_
      refine lv_imul hx hb dX10_restore_55 ?_
      refine lv_iload_n hx hb dX10_restore_56 rfl (lv_at hl 2 rfl) ?_
      refine lv_iadd hx hb dX10_restore_57 ?_
      obtain ⟨hin, h⟩ := h
      refine va_iald hx hb hKn.k hP 4 0 rfl rfl hin dX10_restore_58 ?_
      refine lv_topi (fun y1 ey1 => ?_)
      have h := h y1 ey1
      obtain ⟨hin, h⟩ := h
      refine va_iast hx hb hKn.k hP hD hS 1 0 rfl rfl hin dX10_restore_59 (fun H locs hP hD hS => ?_)
      obtain ⟨q2, eq2⟩ : ∃ z : qS, z = up2 q 1 (Int32.toNatClampNeg x2) y1 := ⟨_, rfl⟩
      have hP : va_P G.1 vwCl (wM G a q2 ++ R) H := by rw [eq2]; exact hP
      have hD : va_D A (wM G a q2 ++ R) := by rw [eq2]; exact hD
      have h := h q2 eq2
      obtain ⟨y3, ey3⟩ : ∃ z : Int32, z = x2 + (1 : Int32) := ⟨_, rfl⟩
      have h := h y3 ey3
      refine lv_iinc (v := y3) (lv' := [(2, .int y3), (0, .ref (a 0)), (1, .int x1)]) hx hb dX10_restore_60 hl (k := 2) rfl (by rw [ey3]; rfl) (by decide) rfl (fun ls hl => ?_)
      refine lv_goto (tgt := 35) hx hb dX10_restore_63 (by decide) ?_
      exact ih q2 x1 y3 _ _ _ h hP hD hS (lv_sub hl [1, 2, 0] rfl)
set_option maxHeartbeats 4000000 in
set_option maxRecDepth 100000 in
theorem mX10_restore (l : Launch) (G : qG) (k : Int32 → qS → Prop) (R : va_W) (a : Nat → Nat) (q : qS) (sz : Nat) (p0 : Int32) : Met l yX10_restore wsX10_restore rmX10_restore (qPc G [.ref (a 0), .int p0] (wM G a q ++ R) sz (wX10_restore k q p0)) (qQi G (wM G a q ++ R) sz (fun (r : Int32) (u : qS) => k r u) (fun (u : qS) => wM G a u ++ R)) 0 0 (va_A (wM G a q ++ R) sz) := by
  refine Met.ofW (cc := cX10_restore) (maxL := 3) (ret := (some .int)) (by decide) rfl ?_
  intro p e s m args below meth c s₁ B hml hv
  obtain ⟨rfl, hsz, hP, hD0, hKn0, h⟩ := hv
  have hx := B.exec
  have hb := B.bytes
  have hr := B.returns
  have hts := atoms_spec (ws := wsX10_restore) B.pre
  have hown : s.vm.findClass RX10 = some m.cls := findClass_of_methodNamed B.named
  have hlocks := B.notSynchronized
  subst hsz
  have hD := hD0.self (sz := s.heap.size)
  generalize hAe : va_A (wM G a q ++ R) s.heap.size = A at hD hKn0 ⊢
  have hA : ∀ q : Nat, s.heap.size ≤ q → A q := fun q h => by rw [← hAe]; exact Or.inr h
  have hKn : qKn G A s s.heap := hKn0
  have hS : va_S A s.heap s.heap [] := va_S.rf
  have hret : ∀ (r : Int32) (q' : qS) (H : Heap) (locs : List Loc) (ls : Array Slot) (pc : Nat), k r q' → va_P G.1 vwCl (wM G a q' ++ R) H → va_D A (wM G a q' ++ R) → va_S A s.heap H locs → decode cX10_restore pc = .ok (.ireturn, 1) → W p l e rmX10_restore s m #[.ref (a 0), .int p0] below meth c H locs 0 0 (MQ below (qQi G (wM G a q ++ R) s.heap.size (fun (r : Int32) (u : qS) => k r u) (fun (u : qS) => wM G a u ++ R)) #[.ref (a 0), .int p0] s 0 0 A) (F0 m pc ls [.int r]) := fun r q' H locs ls pc hk hP hD hS hd => W.iret hx hb hr (fun t ht hW => q_ri (u := (q' : qS)) hAe hk hP hD hS ht) hS.2.2 hd
  have hl := lv_entry ([.ref (a 0), .int p0]) (n := 3) (Nat.le_of_ble_eq_true rfl)
  rw [lg_entry_eq]
  generalize (lg_sl ([.ref (a 0), .int p0]) ++ List.replicate (3 - (lg_sl ([.ref (a 0), .int p0])).length) Slot.unset).toArray = ls at hl ⊢
  have hl : lv_has ls 3 [(0, .ref (a 0)), (1, .int p0)] := hl
  unfold wX10_restore at h
  show W p l e rmX10_restore s m #[.ref (a 0), .int p0] below meth c s.heap [] 0 0 _ _
  refine lv_aload_n hx hb dX10_restore_0 rfl (lv_at hl 0 rfl) ?_
  refine lv_iconst (v := (0 : Int32)) hx hb dX10_restore_1 (by decide) ?_
  refine va_put (D := G.1) (ci := 10) (v := .int (0 : Int32)) (ty := .int) (C := RX10) (T := TX10) (N := 15) hx hb hts iX10_restore_X10 tyX10 tyX10_ok nmX10 hown hKn.k hP hD hS 0 rfl rfl 0 (by decide) (hts _ lX10_restore_f32) (fun _ h9 => h9) rfl (by decide +kernel) rfl rfl (Nat.le_of_ble_eq_true rfl) dX10_restore_2 (fun H locs hP hD hS => ?_)
  obtain ⟨q4, eq4⟩ : ∃ z : qS, z = up2 q 0 0 (0 : Int32) := ⟨_, rfl⟩
  have hP : va_P G.1 vwCl (wM G a q4 ++ R) H := by rw [eq4]; exact hP
  have hD : va_D A (wM G a q4 ++ R) := by rw [eq4]; exact hD
  have h := h q4 eq4
  refine lv_iload_n hx hb dX10_restore_5 rfl (lv_at hl 1 rfl) ?_
  refine lv_iconst (v := (0 : Int32)) hx hb dX10_restore_6 (by decide) ?_
  refine lv_iconst (v := (1 : Int32)) hx hb dX10_restore_7 (by decide) ?_
  refine qc_si (As := [.int p0, .int (0 : Int32), .int (1 : Int32)]) (rest := []) ⟨hx, hb, hml, hown, hts⟩ (mX10_in l G _ _ _ p0 (0 : Int32) (1 : Int32)) (cwS 3 hts gX10_restore_X10_in rfl rfl rfl (by decide +kernel) ⟨Nat.le_of_ble_eq_true rfl, Nat.le_of_ble_eq_true rfl⟩) hP hD hS hA hKn h rfl hl.1 rfl (Nat.le_of_ble_eq_true rfl) dX10_restore_8 ⟨Nat.zero_le _, Nat.zero_le _⟩ (fun r5 _ H locs h hP hD hS => ?_)
  have hP : va_P G.1 vwCl (wM G a q4 ++ R) H := hP
  have hD : va_D A (wM G a q4 ++ R) := hD
  refine lv_if_ne (tgt := 17) hx hb dX10_restore_11 (by decide) (fun c1 => ?_) (fun c1 => ?_)
  · have h := h.1 c1
    refine lv_aload_n hx hb dX10_restore_17 rfl (lv_at hl 0 rfl) ?_
    refine va_get (D := G.1) (ci := 10) (v := .ref (a 6)) (C := RX10) (T := TX10) (N := 15) hx hb hts iX10_restore_X10 hown hKn.k hP 0 rfl rfl 6 (by decide) (hts _ lX10_restore_f22) (fun _ h9 => h9) rfl dX10_restore_18 ?_
    refine lv_iload_n hx hb dX10_restore_21 rfl (lv_at hl 1 rfl) ?_
    obtain ⟨hin, h⟩ := h
    refine va_zald hx hb hKn.k hP 5 1 rfl rfl hin dX10_restore_22 ?_
    refine lv_if_ne (tgt := 29) hx hb dX10_restore_23 (by decide) (fun c1 => ?_) (fun c1 => ?_)
    · have h := h.1 c1
      refine lv_aload_n hx hb dX10_restore_29 rfl (lv_at hl 0 rfl) ?_
      refine qc_vv (As := []) (rest := []) ⟨hx, hb, hml, hown, hts⟩ (mX10_records l G _ _ a q4 _ ) (cwV 0 hts gX10_restore_X10_records rfl rfl rfl (by decide +kernel) ⟨Nat.le_of_ble_eq_true rfl, Nat.le_of_ble_eq_true rfl⟩) hP hD hS hA hKn 0 10 rfl rfl rfl h rfl hl.1 rfl (Nat.le_of_ble_eq_true rfl) dX10_restore_30 ⟨Nat.zero_le _, Nat.zero_le _⟩ (fun q7 H locs h hP hD hS => ?_)
      have hP : va_P G.1 vwCl (wM G a q7 ++ R) H := hP
      have hD : va_D A (wM G a q7 ++ R) := hD
      refine lv_iconst (v := (0 : Int32)) hx hb dX10_restore_33 (by decide) ?_
      refine lv_istore_n (lv' := [(2, .int (0 : Int32)), (0, .ref (a 0)), (1, .int p0)]) hx hb dX10_restore_34 rfl hl (by decide) rfl (fun ls hl => ?_)
      obtain ⟨n8, h⟩ := h
      exact kX10_restore_b35 hx hb hml hown hts hA hKn hret n8 q7 p0 (0 : Int32) _ _ _ h hP hD hS (lv_sub hl [1, 2, 0] rfl)
    · have h := h.2 c1
      refine lv_bipush (v := (-5 : Int32)) hx hb dX10_restore_26 (by decide) ?_
      exact hret _ _ _ _ _ _ h hP hD hS dX10_restore_28
  · have h := h.2 c1
    refine lv_bipush (v := (-2 : Int32)) hx hb dX10_restore_14 (by decide) ?_
    exact hret _ _ _ _ _ _ h hP hD hS dX10_restore_16
