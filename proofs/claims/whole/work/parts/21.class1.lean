abbrev rmX2_crushForAnHour : Room := { frames := 2, cells := 0, slots := 0, locals := 47 }
theorem lX2_crushForAnHour_cmin : Cond.code Lib.Math.min.name Lib.Math.min.code 2 (some .int) ∈ wsX2_crushForAnHour := by decide +kernel
theorem lX2_crushForAnHour_f9 : Cond.fieldLink RX2 9 "QuarryBlends$Crusher" "uncrushed" "[I" ∈ wsX2_crushForAnHour := by decide +kernel
theorem lX2_crushForAnHour_im : Cond.initialized "java/lang/Math" ∈ wsX2_crushForAnHour := by decide +kernel
theorem lX2_crushForAnHour_m43 : Cond.methodLink RX2 43 Lib.Math.min.name ∈ wsX2_crushForAnHour := by decide +kernel
theorem lX2_crushForAnHour_smin : Cond.static Lib.Math.min.name ∈ wsX2_crushForAnHour := by decide +kernel
theorem iX2_crushForAnHour_X2 : ∀ w ∈ wsX20, w ∈ wsX2_crushForAnHour := by decide +kernel
set_option maxHeartbeats 4000000 in
set_option maxRecDepth 100000 in
theorem kX2_crushForAnHour_b53 {p : Program} {l : Launch} {e : Env} {s : State} {m : MethodId} {args : Array Value} {below : List Frame} {meth : Method} {c : Code} {G : qG} {A : Nat → Prop} {Qf : State → Prop} {R : va_W} {a : Nat → Nat} {k : qS → Prop} (hx : p.tables.exec = Jvm.exec) (hb : c.code = cX2_crushForAnHour) (hml : c.maxLocals = 6) (hown : s.vm.findClass RX2 = some m.cls) (hts : ∀ w ∈ wsX2_crushForAnHour, w.before args s = true) (hA : ∀ q : Nat, s.heap.size ≤ q → A q) (hKn : qKn G A s s.heap) (hret : ∀ (q : qS) (H : Heap) (locs : List Loc) (ls : Array Slot) (pc : Nat), k q → va_P G.1 vwCl (wQ G a q ++ R) H → va_D A (wQ G a q ++ R) → va_S A s.heap H locs → decode cX2_crushForAnHour pc = .ok (.return_, 1) → W p l e rmX2_crushForAnHour s m args below meth c H locs 0 0 Qf (F0 m pc ls [])) : ∀ (q : qS) (H : Heap) (locs : List Loc) (ls : Array Slot), wX2_crushForAnHour_b53 k q → va_P G.1 vwCl (wQ G a q ++ R) H → va_D A (wQ G a q ++ R) → va_S A s.heap H locs → lv_has ls 6 [] → W p l e rmX2_crushForAnHour s m args below meth c H locs 0 0 Qf (F0 m 53 ls []) := by
  intro q H locs ls h hP hD hS hl
  unfold wX2_crushForAnHour_b53 at h
  exact hret _ _ _ _ _ h hP hD hS dX2_crushForAnHour_53
set_option maxHeartbeats 4000000 in
set_option maxRecDepth 100000 in
theorem kX2_crushForAnHour_b9 {p : Program} {l : Launch} {e : Env} {s : State} {m : MethodId} {args : Array Value} {below : List Frame} {meth : Method} {c : Code} {G : qG} {A : Nat → Prop} {Qf : State → Prop} {R : va_W} {a : Nat → Nat} {k : qS → Prop} (hx : p.tables.exec = Jvm.exec) (hb : c.code = cX2_crushForAnHour) (hml : c.maxLocals = 6) (hown : s.vm.findClass RX2 = some m.cls) (hts : ∀ w ∈ wsX2_crushForAnHour, w.before args s = true) (hA : ∀ q : Nat, s.heap.size ≤ q → A q) (hKn : qKn G A s s.heap) (hret : ∀ (q : qS) (H : Heap) (locs : List Loc) (ls : Array Slot) (pc : Nat), k q → va_P G.1 vwCl (wQ G a q ++ R) H → va_D A (wQ G a q ++ R) → va_S A s.heap H locs → decode cX2_crushForAnHour pc = .ok (.return_, 1) → W p l e rmX2_crushForAnHour s m args below meth c H locs 0 0 Qf (F0 m pc ls [])) : ∀ (n : Nat) (q : qS) (x1 : Int32) (x3 : Int32) (x4 : Int32) (H : Heap) (locs : List Loc) (ls : Array Slot), wX2_crushForAnHour_b9 k n q x1 x3 x4 → va_P G.1 vwCl (wQ G a q ++ R) H → va_D A (wQ G a q ++ R) → va_S A s.heap H locs → lv_has ls 6 [(0, .ref (a 15)), (1, .int x1), (3, .int x3), (4, .int x4)] → W p l e rmX2_crushForAnHour s m args below meth c H locs 0 0 Qf (F0 m 9 ls []) := by
  intro n
  induction n with
  | zero => intros; rename_i h _ _ _ _; exact h.elim
  | succ n ih =>
    intro q x1 x3 x4 H locs ls h hP hD hS hl
    unfold wX2_crushForAnHour_b9 at h
    refine lv_iload hx hb dX2_crushForAnHour_9 (lv_at hl 3 rfl) ?_
    refine lv_bipush (v := (9 : Int32)) hx hb dX2_crushForAnHour_11 (by decide) ?_
    refine lv_icmp_gt (tgt := 53) hx hb dX2_crushForAnHour_13 (by decide) (fun c1 => ?_) (fun c1 => ?_)
    · have h := h.1 c1
      exact kX2_crushForAnHour_b53 hx hb hml hown hts hA hKn hret q _ _ _ h hP hD hS (lv_sub hl [] rfl)
    · have h := h.2 c1
      refine lv_iload_n hx hb dX2_crushForAnHour_16 rfl (lv_at hl 2 rfl) ?_
      refine lv_if_le (tgt := 53) hx hb dX2_crushForAnHour_17 (by decide) (fun c1 => ?_) (fun c1 => ?_)
      · have h := h.1 c1
        exact kX2_crushForAnHour_b53 hx hb hml hown hts hA hKn hret q _ _ _ h hP hD hS (lv_sub hl [] rfl)
      · have h := h.2 c1
        refine lv_iload_n hx hb dX2_crushForAnHour_20 rfl (lv_at hl 2 rfl) ?_
        refine lv_aload_n hx hb dX2_crushForAnHour_21 rfl (lv_at hl 0 rfl) ?_
        refine va_get (D := G.1) (ci := 2) (v := .ref (a 10)) (C := RX2) (T := TX2) (N := 4) hx hb hts iX2_crushForAnHour_X2 hown hKn.k hP 12 rfl rfl 0 (by decide) (hts _ lX2_crushForAnHour_f9) (fun _ h9 => h9) rfl dX2_crushForAnHour_22 ?_
        refine lv_iload hx hb dX2_crushForAnHour_25 (lv_at hl 3 rfl) ?_
        obtain ⟨hin, h⟩ := h
        refine va_iald hx hb hKn.k hP 13 0 rfl rfl hin dX2_crushForAnHour_27 ?_
        refine va_mmin hx hb (hml.trans hl.1.symm) hown (hts _ lX2_crushForAnHour_m43) (hts _ lX2_crushForAnHour_smin) (hts _ lX2_crushForAnHour_im) (hts _ lX2_crushForAnHour_cmin) (Nat.le_of_ble_eq_true rfl) (Nat.le_of_ble_eq_true rfl) (Nat.zero_le _) (Nat.zero_le _) dX2_crushForAnHour_28 ?_
        refine lv_topi (fun y1 ey1 => ?_)
        have h := h y1 ey1
        refine lv_istore (lv' := [(5, .int y1), (0, .ref (a 15)), (1, .int x1), (3, .int x3), (4, .int x4)]) hx hb dX2_crushForAnHour_31 hl (by decide) rfl (fun ls hl => ?_)
        refine lv_iload_n hx hb dX2_crushForAnHour_33 rfl (lv_at hl 3 rfl) ?_
        refine lv_iload hx hb dX2_crushForAnHour_34 (lv_at hl 0 rfl) ?_
        refine lv_isub hx hb dX2_crushForAnHour_36 ?_
        refine lv_topi (fun y2 ey2 => ?_)
        have h := h y2 ey2
        refine lv_istore_n (lv' := [(3, .int y2), (5, .int y1), (0, .ref (a 15)), (1, .int x1), (4, .int x4)]) hx hb dX2_crushForAnHour_37 rfl hl (by decide) rfl (fun ls hl => ?_)
        refine lv_aload_n hx hb dX2_crushForAnHour_38 rfl (lv_at hl 2 rfl) ?_
        refine lv_iload hx hb dX2_crushForAnHour_39 (lv_at hl 1 rfl) ?_
        refine lv_iload hx hb dX2_crushForAnHour_41 (lv_at hl 4 rfl) ?_
        refine lv_iload_n hx hb dX2_crushForAnHour_43 rfl (lv_at hl 3 rfl) ?_
        refine qc_vv (As := [.int y1, .int x4, .int x1]) (rest := []) ⟨hx, hb, hml, hown, hts⟩ (mX2_crush l G _ _ a q _ y1 x4 x1) (cwV 3 hts gX2_crushForAnHour_X2_crush rfl rfl rfl (by decide +kernel) ⟨Nat.le_of_ble_eq_true rfl, Nat.le_of_ble_eq_true rfl⟩) hP hD hS hA hKn 12 2 rfl rfl rfl h rfl hl.1 rfl (Nat.le_of_ble_eq_true rfl) dX2_crushForAnHour_44 ⟨Nat.zero_le _, Nat.zero_le _⟩ (fun q4 H locs h hP hD hS => ?_)
        have hP : va_P G.1 vwCl (wQ G a q4 ++ R) H := hP
        have hD : va_D A (wQ G a q4 ++ R) := hD
        obtain ⟨y5, ey5⟩ : ∃ z : Int32, z = x4 + (1 : Int32) := ⟨_, rfl⟩
        have h := h y5 ey5
        refine lv_iinc (v := y5) (lv' := [(4, .int y5), (3, .int y2), (5, .int y1), (0, .ref (a 15)), (1, .int x1)]) hx hb dX2_crushForAnHour_47 hl (k := 4) rfl (by rw [ey5]; rfl) (by decide) rfl (fun ls hl => ?_)
        refine lv_goto (tgt := 9) hx hb dX2_crushForAnHour_50 (by decide) ?_
        exact ih q4 x1 y2 y5 _ _ _ h hP hD hS (lv_sub hl [3, 4, 1, 0] rfl)
set_option maxHeartbeats 4000000 in
set_option maxRecDepth 100000 in
theorem mX2_crushForAnHour (l : Launch) (G : qG) (k : qS → Prop) (R : va_W) (a : Nat → Nat) (q : qS) (sz : Nat) (p0 : Int32) (p1 : Int32) : Met l yX2_crushForAnHour wsX2_crushForAnHour rmX2_crushForAnHour (qPc G [.ref (a 15), .int p0, .int p1] (wQ G a q ++ R) sz (wX2_crushForAnHour k q p0 p1)) (qQv G (wQ G a q ++ R) sz (fun (u : qS) => k u) (fun (u : qS) => wQ G a u ++ R)) 0 0 (va_A (wQ G a q ++ R) sz) := by
  refine Met.ofW (cc := cX2_crushForAnHour) (maxL := 6) (ret := none) (by decide) rfl ?_
  intro p e s m args below meth c s₁ B hml hv
  obtain ⟨rfl, hsz, hP, hD0, hKn0, h⟩ := hv
  have hx := B.exec
  have hb := B.bytes
  have hr := B.returns
  have hts := atoms_spec (ws := wsX2_crushForAnHour) B.pre
  have hown : s.vm.findClass RX2 = some m.cls := findClass_of_methodNamed B.named
  have hlocks := B.notSynchronized
  subst hsz
  have hD := hD0.self (sz := s.heap.size)
  generalize hAe : va_A (wQ G a q ++ R) s.heap.size = A at hD hKn0 ⊢
  have hA : ∀ q : Nat, s.heap.size ≤ q → A q := fun q h => by rw [← hAe]; exact Or.inr h
  have hKn : qKn G A s s.heap := hKn0
  have hS : va_S A s.heap s.heap [] := va_S.rf
  have hret : ∀ (q' : qS) (H : Heap) (locs : List Loc) (ls : Array Slot) (pc : Nat), k q' → va_P G.1 vwCl (wQ G a q' ++ R) H → va_D A (wQ G a q' ++ R) → va_S A s.heap H locs → decode cX2_crushForAnHour pc = .ok (.return_, 1) → W p l e rmX2_crushForAnHour s m #[.ref (a 15), .int p0, .int p1] below meth c H locs 0 0 (MQ below (qQv G (wQ G a q ++ R) s.heap.size (fun (u : qS) => k u) (fun (u : qS) => wQ G a u ++ R)) #[.ref (a 15), .int p0, .int p1] s 0 0 A) (F0 m pc ls []) := fun q' H locs ls pc hk hP hD hS hd => W.vret hx hb hr (fun t ht hW => q_rv (u := (q' : qS)) hAe hk hP hD hS ht) hS.2.2 hd
  have hl := lv_entry ([.ref (a 15), .int p0, .int p1]) (n := 6) (Nat.le_of_ble_eq_true rfl)
  rw [lg_entry_eq]
  generalize (lg_sl ([.ref (a 15), .int p0, .int p1]) ++ List.replicate (6 - (lg_sl ([.ref (a 15), .int p0, .int p1])).length) Slot.unset).toArray = ls at hl ⊢
  have hl : lv_has ls 6 [(0, .ref (a 15)), (1, .int p0), (2, .int p1)] := hl
  unfold wX2_crushForAnHour at h
  show W p l e rmX2_crushForAnHour s m #[.ref (a 15), .int p0, .int p1] below meth c s.heap [] 0 0 _ _
  refine lv_aload_n hx hb dX2_crushForAnHour_0 rfl (lv_at hl 0 rfl) ?_
  refine lv_iload_n hx hb dX2_crushForAnHour_1 rfl (lv_at hl 2 rfl) ?_
  refine qc_vi (As := [.int p1]) (rest := []) ⟨hx, hb, hml, hown, hts⟩ (mX2_tonnesInAnHour l G _ _ a q _ p1) (cwV 1 hts gX2_crushForAnHour_X2_tonnesInAnHour rfl rfl rfl (by decide +kernel) ⟨Nat.le_of_ble_eq_true rfl, Nat.le_of_ble_eq_true rfl⟩) hP hD hS hA hKn 12 2 rfl rfl rfl h rfl hl.1 rfl (Nat.le_of_ble_eq_true rfl) dX2_crushForAnHour_2 ⟨Nat.zero_le _, Nat.zero_le _⟩ (fun r6 q7 H locs h hP hD hS => ?_)
  have hP : va_P G.1 vwCl (wQ G a q7 ++ R) H := hP
  have hD : va_D A (wQ G a q7 ++ R) := hD
  refine lv_istore_n (lv' := [(3, .int r6), (0, .ref (a 15)), (1, .int p0), (2, .int p1)]) hx hb dX2_crushForAnHour_5 rfl hl (by decide) rfl (fun ls hl => ?_)
  refine lv_iconst (v := (1 : Int32)) hx hb dX2_crushForAnHour_6 (by decide) ?_
  refine lv_istore (lv' := [(4, .int (1 : Int32)), (3, .int r6), (0, .ref (a 15)), (1, .int p0), (2, .int p1)]) hx hb dX2_crushForAnHour_7 hl (by decide) rfl (fun ls hl => ?_)
  obtain ⟨n8, h⟩ := h
  exact kX2_crushForAnHour_b9 hx hb hml hown hts hA hKn hret n8 q7 p0 r6 (1 : Int32) _ _ _ h hP hD hS (lv_sub hl [2, 3, 1, 0] rfl)
abbrev rmX2_takeOut : Room := { frames := 0, cells := 0, slots := 0, locals := 0 }
theorem lX2_takeOut_f15 : Cond.fieldLink RX2 15 "QuarryBlends$Crusher" "bins" "[I" ∈ wsX2_takeOut := by decide +kernel
theorem lX2_takeOut_f50 : Cond.fieldLink RX2 50 "QuarryBlends$Blend" "fine" "I" ∈ wsX2_takeOut := by decide +kernel
theorem lX2_takeOut_f55 : Cond.fieldLink RX2 55 "QuarryBlends$Blend" "tonnes" "I" ∈ wsX2_takeOut := by decide +kernel
theorem lX2_takeOut_f58 : Cond.fieldLink RX2 58 "QuarryBlends$Blend" "coarse" "I" ∈ wsX2_takeOut := by decide +kernel
theorem iX2_takeOut_X0 : ∀ w ∈ wsX00, w ∈ wsX2_takeOut := by decide +kernel
theorem iX2_takeOut_X2 : ∀ w ∈ wsX20, w ∈ wsX2_takeOut := by decide +kernel
set_option maxHeartbeats 4000000 in
set_option maxRecDepth 100000 in
theorem mX2_takeOut (l : Launch) (G : qG) (k : qS → Prop) (R : va_W) (a : Nat → Nat) (q : qS) (sz : Nat) : Met l yX2_takeOut wsX2_takeOut rmX2_takeOut (qPc G [.ref (a 15), .ref (a 17)] (wQ G a q ++ R) sz (wX2_takeOut k q)) (qQv G (wQ G a q ++ R) sz (fun (u : qS) => k u) (fun (u : qS) => wQ G a u ++ R)) 0 0 (va_A (wQ G a q ++ R) sz) := by
  refine Met.ofW (cc := cX2_takeOut) (maxL := 2) (ret := none) (by decide) rfl ?_
  intro p e s m args below meth c s₁ B hml hv
  obtain ⟨rfl, hsz, hP, hD0, hKn0, h⟩ := hv
  have hx := B.exec
  have hb := B.bytes
  have hr := B.returns
  have hts := atoms_spec (ws := wsX2_takeOut) B.pre
  have hown : s.vm.findClass RX2 = some m.cls := findClass_of_methodNamed B.named
  have hlocks := B.notSynchronized
  subst hsz
  have hD := hD0.self (sz := s.heap.size)
  generalize hAe : va_A (wQ G a q ++ R) s.heap.size = A at hD hKn0 ⊢
  have hA : ∀ q : Nat, s.heap.size ≤ q → A q := fun q h => by rw [← hAe]; exact Or.inr h
  have hKn : qKn G A s s.heap := hKn0
  have hS : va_S A s.heap s.heap [] := va_S.rf
  have hret : ∀ (q' : qS) (H : Heap) (locs : List Loc) (ls : Array Slot) (pc : Nat), k q' → va_P G.1 vwCl (wQ G a q' ++ R) H → va_D A (wQ G a q' ++ R) → va_S A s.heap H locs → decode cX2_takeOut pc = .ok (.return_, 1) → W p l e rmX2_takeOut s m #[.ref (a 15), .ref (a 17)] below meth c H locs 0 0 (MQ below (qQv G (wQ G a q ++ R) s.heap.size (fun (u : qS) => k u) (fun (u : qS) => wQ G a u ++ R)) #[.ref (a 15), .ref (a 17)] s 0 0 A) (F0 m pc ls []) := fun q' H locs ls pc hk hP hD hS hd => W.vret hx hb hr (fun t ht hW => q_rv (u := (q' : qS)) hAe hk hP hD hS ht) hS.2.2 hd
  have hl := lv_entry ([.ref (a 15), .ref (a 17)]) (n := 2) (Nat.le_of_ble_eq_true rfl)
  rw [lg_entry_eq]
  generalize (lg_sl ([.ref (a 15), .ref (a 17)]) ++ List.replicate (2 - (lg_sl ([.ref (a 15), .ref (a 17)])).length) Slot.unset).toArray = ls at hl ⊢
  have hl : lv_has ls 2 [(0, .ref (a 15)), (1, .ref (a 17))] := hl
  unfold wX2_takeOut at h
  show W p l e rmX2_takeOut s m #[.ref (a 15), .ref (a 17)] below meth c s.heap [] 0 0 _ _
  refine lv_aload_n hx hb dX2_takeOut_0 rfl (lv_at hl 0 rfl) ?_
  refine va_get (D := G.1) (ci := 2) (v := .ref (a 11)) (C := RX2) (T := TX2) (N := 4) hx hb hts iX2_takeOut_X2 hown hKn.k hP 12 rfl rfl 1 (by decide) (hts _ lX2_takeOut_f15) (fun _ h9 => h9) rfl dX2_takeOut_1 ?_
  refine lv_iconst (v := (0 : Int32)) hx hb dX2_takeOut_4 (by decide) ?_
  refine lv_dup2_11 hx hb dX2_takeOut_5 rfl rfl ?_
  refine va_iald hx hb hKn.k hP 14 0 rfl rfl (by unfold vp_in; decide) dX2_takeOut_6 ?_
  refine lv_aload_n hx hb dX2_takeOut_7 rfl (lv_at hl 1 rfl) ?_
  refine va_get (D := G.1) (ci := 0) (v := .int (q 0 13)) (C := RX0) (T := TX0) (N := 8) hx hb hts iX2_takeOut_X0 hown hKn.k hP 17 rfl rfl 5 (by decide) (hts _ lX2_takeOut_f50) (fun _ h9 => h9) rfl dX2_takeOut_8 ?_
  refine lv_isub hx hb dX2_takeOut_11 ?_
  refine lv_topi (fun y1 ey1 => ?_)
  have h := h y1 ey1
  refine va_iast hx hb hKn.k hP hD hS 14 0 rfl rfl (by unfold vp_in; decide) dX2_takeOut_12 (fun H locs hP hD hS => ?_)
  obtain ⟨q2, eq2⟩ : ∃ z : qS, z = up2 q 11 0 y1 := ⟨_, rfl⟩
  have hP : va_P G.1 vwCl (wQ G a q2 ++ R) H := by rw [eq2]; exact hP
  have hD : va_D A (wQ G a q2 ++ R) := by rw [eq2]; exact hD
  have h := h q2 eq2
  refine lv_aload_n hx hb dX2_takeOut_13 rfl (lv_at hl 0 rfl) ?_
  refine va_get (D := G.1) (ci := 2) (v := .ref (a 11)) (C := RX2) (T := TX2) (N := 4) hx hb hts iX2_takeOut_X2 hown hKn.k hP 12 rfl rfl 1 (by decide) (hts _ lX2_takeOut_f15) (fun _ h9 => h9) rfl dX2_takeOut_14 ?_
  refine lv_iconst (v := (1 : Int32)) hx hb dX2_takeOut_17 (by decide) ?_
  refine lv_dup2_11 hx hb dX2_takeOut_18 rfl rfl ?_
  refine va_iald hx hb hKn.k hP 14 0 rfl rfl (by unfold vp_in; decide) dX2_takeOut_19 ?_
  refine lv_aload_n hx hb dX2_takeOut_20 rfl (lv_at hl 1 rfl) ?_
  refine va_get (D := G.1) (ci := 0) (v := .int (q2 0 8)) (C := RX0) (T := TX0) (N := 8) hx hb hts iX2_takeOut_X0 hown hKn.k hP 17 rfl rfl 0 (by decide) (hts _ lX2_takeOut_f55) (fun _ h9 => h9) rfl dX2_takeOut_21 ?_
  refine lv_aload_n hx hb dX2_takeOut_24 rfl (lv_at hl 1 rfl) ?_
  refine va_get (D := G.1) (ci := 0) (v := .int (q2 0 13)) (C := RX0) (T := TX0) (N := 8) hx hb hts iX2_takeOut_X0 hown hKn.k hP 17 rfl rfl 5 (by decide) (hts _ lX2_takeOut_f50) (fun _ h9 => h9) rfl dX2_takeOut_25 ?_
  refine lv_isub hx hb dX2_takeOut_28 ?_
  refine lv_aload_n hx hb dX2_takeOut_29 rfl (lv_at hl 1 rfl) ?_
  refine va_get (D := G.1) (ci := 0) (v := .int (q2 0 14)) (C := RX0) (T := TX0) (N := 8) hx hb hts iX2_takeOut_X0 hown hKn.k hP 17 rfl rfl 6 (by decide) (hts _ lX2_takeOut_f58) (fun _ h9 => h9) rfl dX2_takeOut_30 ?_
  refine lv_isub hx hb dX2_takeOut_33 ?_
  refine lv_isub hx hb dX2_takeOut_34 ?_
  refine lv_topi (fun y3 ey3 => ?_)
  have h := h y3 ey3
  refine va_iast hx hb hKn.k hP hD hS 14 0 rfl rfl (by unfold vp_in; decide) dX2_takeOut_35 (fun H locs hP hD hS => ?_)
  obtain ⟨q4, eq4⟩ : ∃ z : qS, z = up2 q2 11 1 y3 := ⟨_, rfl⟩
  have hP : va_P G.1 vwCl (wQ G a q4 ++ R) H := by rw [eq4]; exact hP
  have hD : va_D A (wQ G a q4 ++ R) := by rw [eq4]; exact hD
  have h := h q4 eq4
  refine lv_aload_n hx hb dX2_takeOut_36 rfl (lv_at hl 0 rfl) ?_
  refine va_get (D := G.1) (ci := 2) (v := .ref (a 11)) (C := RX2) (T := TX2) (N := 4) hx hb hts iX2_takeOut_X2 hown hKn.k hP 12 rfl rfl 1 (by decide) (hts _ lX2_takeOut_f15) (fun _ h9 => h9) rfl dX2_takeOut_37 ?_
  refine lv_iconst (v := (2 : Int32)) hx hb dX2_takeOut_40 (by decide) ?_
  refine lv_dup2_11 hx hb dX2_takeOut_41 rfl rfl ?_
  refine va_iald hx hb hKn.k hP 14 0 rfl rfl (by unfold vp_in; decide) dX2_takeOut_42 ?_
  refine lv_aload_n hx hb dX2_takeOut_43 rfl (lv_at hl 1 rfl) ?_
  refine va_get (D := G.1) (ci := 0) (v := .int (q4 0 14)) (C := RX0) (T := TX0) (N := 8) hx hb hts iX2_takeOut_X0 hown hKn.k hP 17 rfl rfl 6 (by decide) (hts _ lX2_takeOut_f58) (fun _ h9 => h9) rfl dX2_takeOut_44 ?_
  refine lv_isub hx hb dX2_takeOut_47 ?_
  refine lv_topi (fun y5 ey5 => ?_)
  have h := h y5 ey5
  refine va_iast hx hb hKn.k hP hD hS 14 0 rfl rfl (by unfold vp_in; decide) dX2_takeOut_48 (fun H locs hP hD hS => ?_)
  obtain ⟨q6, eq6⟩ : ∃ z : qS, z = up2 q4 11 2 y5 := ⟨_, rfl⟩
  have hP : va_P G.1 vwCl (wQ G a q6 ++ R) H := by rw [eq6]; exact hP
  have hD : va_D A (wQ G a q6 ++ R) := by rw [eq6]; exact hD
  have h := h q6 eq6
  exact hret _ _ _ _ _ h hP hD hS dX2_takeOut_49
abbrev rmX3_has : Room := { frames := 0, cells := 0, slots := 0, locals := 0 }
theorem lX3_has_f28 : Cond.fieldLink RX3 28 "QuarryBlends$Faces" "amount" "I" ∈ wsX3_has := by decide +kernel
theorem iX3_has_X3 : ∀ w ∈ wsX30, w ∈ wsX3_has := by decide +kernel
set_option maxHeartbeats 4000000 in
set_option maxRecDepth 100000 in
theorem kX3_has_b23 {p : Program} {l : Launch} {e : Env} {s : State} {m : MethodId} {args : Array Value} {below : List Frame} {meth : Method} {c : Code} {G : qG} {A : Nat → Prop} {Qf : State → Prop} {R : va_W} {a : Nat → Nat} {k : Int32 → qS → Prop} (hx : p.tables.exec = Jvm.exec) (hb : c.code = cX3_has) (hml : c.maxLocals = 2) (hown : s.vm.findClass RX3 = some m.cls) (hts : ∀ w ∈ wsX3_has, w.before args s = true) (hA : ∀ q : Nat, s.heap.size ≤ q → A q) (hKn : qKn G A s s.heap) (hret : ∀ (r : Int32) (q : qS) (H : Heap) (locs : List Loc) (ls : Array Slot) (pc : Nat), k r q → narrow .boolean (.int r) = .int r → va_P G.1 vwCl (wQ G a q ++ R) H → va_D A (wQ G a q ++ R) → va_S A s.heap H locs → decode cX3_has pc = .ok (.ireturn, 1) → W p l e rmX3_has s m args below meth c H locs 0 0 Qf (F0 m pc ls [.int r])) : ∀ (q : qS) (z0 : Int32) (H : Heap) (locs : List Loc) (ls : Array Slot), wX3_has_b23 k q z0 → va_P G.1 vwCl (wQ G a q ++ R) H → va_D A (wQ G a q ++ R) → va_S A s.heap H locs → lv_has ls 2 [] → W p l e rmX3_has s m args below meth c H locs 0 0 Qf (F0 m 23 ls [.int z0]) := by
  intro q z0 H locs ls h hP hD hS hl
  unfold wX3_has_b23 at h
  obtain ⟨hn1, h⟩ := h
  exact hret _ _ _ _ _ _ h hn1 hP hD hS dX3_has_23
set_option maxHeartbeats 4000000 in
set_option maxRecDepth 100000 in
theorem kX3_has_b22 {p : Program} {l : Launch} {e : Env} {s : State} {m : MethodId} {args : Array Value} {below : List Frame} {meth : Method} {c : Code} {G : qG} {A : Nat → Prop} {Qf : State → Prop} {R : va_W} {a : Nat → Nat} {k : Int32 → qS → Prop} (hx : p.tables.exec = Jvm.exec) (hb : c.code = cX3_has) (hml : c.maxLocals = 2) (hown : s.vm.findClass RX3 = some m.cls) (hts : ∀ w ∈ wsX3_has, w.before args s = true) (hA : ∀ q : Nat, s.heap.size ≤ q → A q) (hKn : qKn G A s s.heap) (hret : ∀ (r : Int32) (q : qS) (H : Heap) (locs : List Loc) (ls : Array Slot) (pc : Nat), k r q → narrow .boolean (.int r) = .int r → va_P G.1 vwCl (wQ G a q ++ R) H → va_D A (wQ G a q ++ R) → va_S A s.heap H locs → decode cX3_has pc = .ok (.ireturn, 1) → W p l e rmX3_has s m args below meth c H locs 0 0 Qf (F0 m pc ls [.int r])) : ∀ (q : qS) (H : Heap) (locs : List Loc) (ls : Array Slot), wX3_has_b22 k q → va_P G.1 vwCl (wQ G a q ++ R) H → va_D A (wQ G a q ++ R) → va_S A s.heap H locs → lv_has ls 2 [] → W p l e rmX3_has s m args below meth c H locs 0 0 Qf (F0 m 22 ls []) := by
  intro q H locs ls h hP hD hS hl
  unfold wX3_has_b22 at h
  refine lv_iconst (v := (0 : Int32)) hx hb dX3_has_22 (by decide) ?_
  exact kX3_has_b23 hx hb hml hown hts hA hKn hret q (0 : Int32) _ _ _ h hP hD hS (lv_sub hl [] rfl)
set_option maxHeartbeats 4000000 in
set_option maxRecDepth 100000 in
theorem mX3_has (l : Launch) (G : qG) (k : Int32 → qS → Prop) (R : va_W) (a : Nat → Nat) (q : qS) (sz : Nat) (p0 : Int32) : Met l yX3_has wsX3_has rmX3_has (qPc G [.ref (a 13), .int p0] (wQ G a q ++ R) sz (wX3_has k q p0)) (qQi G (wQ G a q ++ R) sz (fun (r : Int32) (u : qS) => k r u) (fun (u : qS) => wQ G a u ++ R)) 0 0 (va_A (wQ G a q ++ R) sz) := by
  refine Met.ofW (cc := cX3_has) (maxL := 2) (ret := (some .boolean)) (by decide) rfl ?_
  intro p e s m args below meth c s₁ B hml hv
  obtain ⟨rfl, hsz, hP, hD0, hKn0, h⟩ := hv
  have hx := B.exec
  have hb := B.bytes
  have hr := B.returns
  have hts := atoms_spec (ws := wsX3_has) B.pre
  have hown : s.vm.findClass RX3 = some m.cls := findClass_of_methodNamed B.named
  have hlocks := B.notSynchronized
  subst hsz
  have hD := hD0.self (sz := s.heap.size)
  generalize hAe : va_A (wQ G a q ++ R) s.heap.size = A at hD hKn0 ⊢
  have hA : ∀ q : Nat, s.heap.size ≤ q → A q := fun q h => by rw [← hAe]; exact Or.inr h
  have hKn : qKn G A s s.heap := hKn0
  have hS : va_S A s.heap s.heap [] := va_S.rf
  have hret : ∀ (r : Int32) (q' : qS) (H : Heap) (locs : List Loc) (ls : Array Slot) (pc : Nat), k r q' → narrow .boolean (.int r) = .int r → va_P G.1 vwCl (wQ G a q' ++ R) H → va_D A (wQ G a q' ++ R) → va_S A s.heap H locs → decode cX3_has pc = .ok (.ireturn, 1) → W p l e rmX3_has s m #[.ref (a 13), .int p0] below meth c H locs 0 0 (MQ below (qQi G (wQ G a q ++ R) s.heap.size (fun (r : Int32) (u : qS) => k r u) (fun (u : qS) => wQ G a u ++ R)) #[.ref (a 13), .int p0] s 0 0 A) (F0 m pc ls [.int r]) := fun r q' H locs ls pc hk hn hP hD hS hd => W.zret hx hb hr hn (fun t ht hW => q_ri (u := (q' : qS)) hAe hk hP hD hS ht) hS.2.2 hd
  have hl := lv_entry ([.ref (a 13), .int p0]) (n := 2) (Nat.le_of_ble_eq_true rfl)
  rw [lg_entry_eq]
  generalize (lg_sl ([.ref (a 13), .int p0]) ++ List.replicate (2 - (lg_sl ([.ref (a 13), .int p0])).length) Slot.unset).toArray = ls at hl ⊢
  have hl : lv_has ls 2 [(0, .ref (a 13)), (1, .int p0)] := hl
  unfold wX3_has at h
  show W p l e rmX3_has s m #[.ref (a 13), .int p0] below meth c s.heap [] 0 0 _ _
  refine lv_iload_n hx hb dX3_has_0 rfl (lv_at hl 1 rfl) ?_
  refine lv_if_lt (tgt := 22) hx hb dX3_has_1 (by decide) (fun c1 => ?_) (fun c1 => ?_)
  · have h := h.1 c1
    exact kX3_has_b22 hx hb hml hown hts hA hKn hret q _ _ _ h hP hD hS (lv_sub hl [] rfl)
  · have h := h.2 c1
    refine lv_iload_n hx hb dX3_has_4 rfl (lv_at hl 1 rfl) ?_
    refine lv_aload_n hx hb dX3_has_5 rfl (lv_at hl 0 rfl) ?_
    refine va_get (D := G.1) (ci := 3) (v := .int (q 0 4)) (C := RX3) (T := TX3) (N := 5) hx hb hts iX3_has_X3 hown hKn.k hP 2 rfl rfl 4 (by decide) (hts _ lX3_has_f28) (fun _ h9 => h9) rfl dX3_has_6 ?_
    refine lv_icmp_ge (tgt := 22) hx hb dX3_has_9 (by decide) (fun c1 => ?_) (fun c1 => ?_)
    · have h := h.1 c1
      exact kX3_has_b22 hx hb hml hown hts hA hKn hret q _ _ _ h hP hD hS (lv_sub hl [] rfl)
    · have h := h.2 c1
      refine lv_iload_n hx hb dX3_has_12 rfl (lv_at hl 1 rfl) ?_
      refine lv_bipush (v := (8 : Int32)) hx hb dX3_has_13 (by decide) ?_
      refine lv_icmp_ge (tgt := 22) hx hb dX3_has_15 (by decide) (fun c1 => ?_) (fun c1 => ?_)
      · have h := h.1 c1
        exact kX3_has_b22 hx hb hml hown hts hA hKn hret q _ _ _ h hP hD hS (lv_sub hl [] rfl)
      · have h := h.2 c1
        refine lv_iconst (v := (1 : Int32)) hx hb dX3_has_18 (by decide) ?_
        refine lv_goto (tgt := 23) hx hb dX3_has_19 (by decide) ?_
        exact kX3_has_b23 hx hb hml hown hts hA hKn hret q (1 : Int32) _ _ _ h hP hD hS (lv_sub hl [] rfl)
abbrev rmX3_add : Room := { frames := 1, cells := 0, slots := 0, locals := 22 }
theorem lX3_add_f15 : Cond.fieldLink RX3 15 "QuarryBlends$Faces" "taken" "[I" ∈ wsX3_add := by decide +kernel
theorem lX3_add_f18 : Cond.fieldLink RX3 18 "QuarryBlends$Faces" "hardness" "[I" ∈ wsX3_add := by decide +kernel
theorem lX3_add_f21 : Cond.fieldLink RX3 21 "QuarryBlends$Faces" "way" "[I" ∈ wsX3_add := by decide +kernel
theorem lX3_add_f28 : Cond.fieldLink RX3 28 "QuarryBlends$Faces" "amount" "I" ∈ wsX3_add := by decide +kernel
theorem lX3_add_f9 : Cond.fieldLink RX3 9 "QuarryBlends$Faces" "left" "[I" ∈ wsX3_add := by decide +kernel
theorem lX3_add_nX9 : Cond.initialized RX9 ∈ wsX3_add := by decide +kernel
theorem lX3_add_sX9_within : Cond.static yX9_within ∈ wsX3_add := by decide +kernel
theorem iX3_add_X3 : ∀ w ∈ wsX30, w ∈ wsX3_add := by decide +kernel
set_option maxHeartbeats 4000000 in
set_option maxRecDepth 100000 in
theorem kX3_add_b31 {p : Program} {l : Launch} {e : Env} {s : State} {m : MethodId} {args : Array Value} {below : List Frame} {meth : Method} {c : Code} {G : qG} {A : Nat → Prop} {Qf : State → Prop} {R : va_W} {a : Nat → Nat} {k : Int32 → qS → Prop} (hx : p.tables.exec = Jvm.exec) (hb : c.code = cX3_add) (hml : c.maxLocals = 5) (hown : s.vm.findClass RX3 = some m.cls) (hts : ∀ w ∈ wsX3_add, w.before args s = true) (hA : ∀ q : Nat, s.heap.size ≤ q → A q) (hKn : qKn G A s s.heap) (hret : ∀ (r : Int32) (q : qS) (H : Heap) (locs : List Loc) (ls : Array Slot) (pc : Nat), k r q → va_P G.1 vwCl (wQ G a q ++ R) H → va_D A (wQ G a q ++ R) → va_S A s.heap H locs → decode cX3_add pc = .ok (.ireturn, 1) → W p l e rmX3_add s m args below meth c H locs 0 0 Qf (F0 m pc ls [.int r])) : ∀ (q : qS) (H : Heap) (locs : List Loc) (ls : Array Slot), wX3_add_b31 k q → va_P G.1 vwCl (wQ G a q ++ R) H → va_D A (wQ G a q ++ R) → va_S A s.heap H locs → lv_has ls 5 [] → W p l e rmX3_add s m args below meth c H locs 0 0 Qf (F0 m 31 ls []) := by
  intro q H locs ls h hP hD hS hl
  unfold wX3_add_b31 at h
  refine lv_bipush (v := (-2 : Int32)) hx hb dX3_add_31 (by decide) ?_
  exact hret _ _ _ _ _ _ h hP hD hS dX3_add_33
set_option maxHeartbeats 4000000 in
set_option maxRecDepth 100000 in
theorem mX3_add (l : Launch) (G : qG) (k : Int32 → qS → Prop) (R : va_W) (a : Nat → Nat) (q : qS) (sz : Nat) (p0 : Int32) (p1 : Int32) (p2 : Int32) : Met l yX3_add wsX3_add rmX3_add (qPc G [.ref (a 13), .int p0, .int p1, .int p2] (wQ G a q ++ R) sz (wX3_add k q p0 p1 p2)) (qQi G (wQ G a q ++ R) sz (fun (r : Int32) (u : qS) => k r u) (fun (u : qS) => wQ G a u ++ R)) 0 0 (va_A (wQ G a q ++ R) sz) := by
  refine Met.ofW (cc := cX3_add) (maxL := 5) (ret := (some .int)) (by decide) rfl ?_
  intro p e s m args below meth c s₁ B hml hv
  obtain ⟨rfl, hsz, hP, hD0, hKn0, h⟩ := hv
  have hx := B.exec
  have hb := B.bytes
  have hr := B.returns
  have hts := atoms_spec (ws := wsX3_add) B.pre
  have hown : s.vm.findClass RX3 = some m.cls := findClass_of_methodNamed B.named
  have hlocks := B.notSynchronized
  subst hsz
  have hD := hD0.self (sz := s.heap.size)
  generalize hAe : va_A (wQ G a q ++ R) s.heap.size = A at hD hKn0 ⊢
  have hA : ∀ q : Nat, s.heap.size ≤ q → A q := fun q h => by rw [← hAe]; exact Or.inr h
  have hKn : qKn G A s s.heap := hKn0
  have hS : va_S A s.heap s.heap [] := va_S.rf
  have hret : ∀ (r : Int32) (q' : qS) (H : Heap) (locs : List Loc) (ls : Array Slot) (pc : Nat), k r q' → va_P G.1 vwCl (wQ G a q' ++ R) H → va_D A (wQ G a q' ++ R) → va_S A s.heap H locs → decode cX3_add pc = .ok (.ireturn, 1) → W p l e rmX3_add s m #[.ref (a 13), .int p0, .int p1, .int p2] below meth c H locs 0 0 (MQ below (qQi G (wQ G a q ++ R) s.heap.size (fun (r : Int32) (u : qS) => k r u) (fun (u : qS) => wQ G a u ++ R)) #[.ref (a 13), .int p0, .int p1, .int p2] s 0 0 A) (F0 m pc ls [.int r]) := fun r q' H locs ls pc hk hP hD hS hd => W.iret hx hb hr (fun t ht hW => q_ri (u := (q' : qS)) hAe hk hP hD hS ht) hS.2.2 hd
  have hl := lv_entry ([.ref (a 13), .int p0, .int p1, .int p2]) (n := 5) (Nat.le_of_ble_eq_true rfl)
  rw [lg_entry_eq]
  generalize (lg_sl ([.ref (a 13), .int p0, .int p1, .int p2]) ++ List.replicate (5 - (lg_sl ([.ref (a 13), .int p0, .int p1, .int p2])).length) Slot.unset).toArray = ls at hl ⊢
  have hl : lv_has ls 5 [(0, .ref (a 13)), (1, .int p0), (2, .int p1), (3, .int p2)] := hl
  unfold wX3_add at h
  show W p l e rmX3_add s m #[.ref (a 13), .int p0, .int p1, .int p2] below meth c s.heap [] 0 0 _ _
  refine lv_iload_n hx hb dX3_add_0 rfl (lv_at hl 1 rfl) ?_
  refine lv_iconst (v := (1 : Int32)) hx hb dX3_add_1 (by decide) ?_
  refine lv_sipush (v := (9999 : Int32)) hx hb dX3_add_2 (by decide) ?_
  refine qc_ni (As := [.int p0, .int (1 : Int32), .int (9999 : Int32)]) (rest := []) ⟨hx, hb, hml, hown, hts⟩ (mX9_within l G _ _ _ p0 (1 : Int32) (9999 : Int32)) ⟨va_cnB 3 hts gX3_add_X9_within_n32 rfl rfl rfl (hKn.2.1 _ (List.mem_of_getElem? (i := 15) rfl)) (hts _ lX3_add_nX9) (by decide +kernel) ⟨Nat.le_of_ble_eq_true rfl, Nat.le_of_ble_eq_true rfl⟩, (hts _ lX3_add_sX9_within), trivial⟩ hP hD hS hA hKn h rfl hl.1 rfl (Nat.le_of_ble_eq_true rfl) dX3_add_5 ⟨Nat.zero_le _, Nat.zero_le _⟩ (fun r1 _ H locs h hP hD hS => ?_)
  have hP : va_P G.1 vwCl (wQ G a q ++ R) H := hP
  have hD : va_D A (wQ G a q ++ R) := hD
  refine lv_if_eq (tgt := 31) hx hb dX3_add_8 (by decide) (fun c1 => ?_) (fun c1 => ?_)
  · have h := h.1 c1
    exact kX3_add_b31 hx hb hml hown hts hA hKn hret q _ _ _ h hP hD hS (lv_sub hl [] rfl)
  · have h := h.2 c1
    refine lv_iload_n hx hb dX3_add_11 rfl (lv_at hl 2 rfl) ?_
    refine lv_iconst (v := (1 : Int32)) hx hb dX3_add_12 (by decide) ?_
    refine lv_bipush (v := (9 : Int32)) hx hb dX3_add_13 (by decide) ?_
    refine qc_ni (As := [.int p1, .int (1 : Int32), .int (9 : Int32)]) (rest := []) ⟨hx, hb, hml, hown, hts⟩ (mX9_within l G _ _ _ p1 (1 : Int32) (9 : Int32)) ⟨va_cnB 3 hts gX3_add_X9_within_n32 rfl rfl rfl (hKn.2.1 _ (List.mem_of_getElem? (i := 15) rfl)) (hts _ lX3_add_nX9) (by decide +kernel) ⟨Nat.le_of_ble_eq_true rfl, Nat.le_of_ble_eq_true rfl⟩, (hts _ lX3_add_sX9_within), trivial⟩ hP hD hS hA hKn h rfl hl.1 rfl (Nat.le_of_ble_eq_true rfl) dX3_add_15 ⟨Nat.zero_le _, Nat.zero_le _⟩ (fun r2 _ H locs h hP hD hS => ?_)
    have hP : va_P G.1 vwCl (wQ G a q ++ R) H := hP
    have hD : va_D A (wQ G a q ++ R) := hD
    refine lv_if_eq (tgt := 31) hx hb dX3_add_18 (by decide) (fun c1 => ?_) (fun c1 => ?_)
    · have h := h.1 c1
      exact kX3_add_b31 hx hb hml hown hts hA hKn hret q _ _ _ h hP hD hS (lv_sub hl [] rfl)
    · have h := h.2 c1
      refine lv_iload_n hx hb dX3_add_21 rfl (lv_at hl 3 rfl) ?_
      refine lv_iconst (v := (1 : Int32)) hx hb dX3_add_22 (by decide) ?_
      refine lv_bipush (v := (12 : Int32)) hx hb dX3_add_23 (by decide) ?_
      refine qc_ni (As := [.int p2, .int (1 : Int32), .int (12 : Int32)]) (rest := []) ⟨hx, hb, hml, hown, hts⟩ (mX9_within l G _ _ _ p2 (1 : Int32) (12 : Int32)) ⟨va_cnB 3 hts gX3_add_X9_within_n32 rfl rfl rfl (hKn.2.1 _ (List.mem_of_getElem? (i := 15) rfl)) (hts _ lX3_add_nX9) (by decide +kernel) ⟨Nat.le_of_ble_eq_true rfl, Nat.le_of_ble_eq_true rfl⟩, (hts _ lX3_add_sX9_within), trivial⟩ hP hD hS hA hKn h rfl hl.1 rfl (Nat.le_of_ble_eq_true rfl) dX3_add_25 ⟨Nat.zero_le _, Nat.zero_le _⟩ (fun r3 _ H locs h hP hD hS => ?_)
      have hP : va_P G.1 vwCl (wQ G a q ++ R) H := hP
      have hD : va_D A (wQ G a q ++ R) := hD
      refine lv_if_ne (tgt := 34) hx hb dX3_add_28 (by decide) (fun c1 => ?_) (fun c1 => ?_)
      · have h := h.1 c1
        refine lv_aload_n hx hb dX3_add_34 rfl (lv_at hl 0 rfl) ?_
        refine va_get (D := G.1) (ci := 3) (v := .int (q 0 4)) (C := RX3) (T := TX3) (N := 5) hx hb hts iX3_add_X3 hown hKn.k hP 2 rfl rfl 4 (by decide) (hts _ lX3_add_f28) (fun _ h9 => h9) rfl dX3_add_35 ?_
        refine lv_topi (fun y4 ey4 => ?_)
        have h := h y4 ey4
        refine lv_istore (lv' := [(4, .int y4), (0, .ref (a 13)), (1, .int p0), (2, .int p1), (3, .int p2)]) hx hb dX3_add_38 hl (by decide) rfl (fun ls hl => ?_)
        refine lv_iload hx hb dX3_add_40 (lv_at hl 0 rfl) ?_
        refine lv_iconst (v := (0 : Int32)) hx hb dX3_add_42 (by decide) ?_
        refine lv_bipush (v := (7 : Int32)) hx hb dX3_add_43 (by decide) ?_
        refine qc_ni (As := [.int y4, .int (0 : Int32), .int (7 : Int32)]) (rest := []) ⟨hx, hb, hml, hown, hts⟩ (mX9_within l G _ _ _ y4 (0 : Int32) (7 : Int32)) ⟨va_cnB 3 hts gX3_add_X9_within_n32 rfl rfl rfl (hKn.2.1 _ (List.mem_of_getElem? (i := 15) rfl)) (hts _ lX3_add_nX9) (by decide +kernel) ⟨Nat.le_of_ble_eq_true rfl, Nat.le_of_ble_eq_true rfl⟩, (hts _ lX3_add_sX9_within), trivial⟩ hP hD hS hA hKn h rfl hl.1 rfl (Nat.le_of_ble_eq_true rfl) dX3_add_45 ⟨Nat.zero_le _, Nat.zero_le _⟩ (fun r5 _ H locs h hP hD hS => ?_)
        have hP : va_P G.1 vwCl (wQ G a q ++ R) H := hP
        have hD : va_D A (wQ G a q ++ R) := hD
        refine lv_if_ne (tgt := 54) hx hb dX3_add_48 (by decide) (fun c1 => ?_) (fun c1 => ?_)
        · have h := h.1 c1
          refine lv_aload_n hx hb dX3_add_54 rfl (lv_at hl 1 rfl) ?_
          refine va_get (D := G.1) (ci := 3) (v := .ref (a 2)) (C := RX3) (T := TX3) (N := 5) hx hb hts iX3_add_X3 hown hKn.k hP 2 rfl rfl 0 (by decide) (hts _ lX3_add_f9) (fun _ h9 => h9) rfl dX3_add_55 ?_
          refine lv_iload hx hb dX3_add_58 (lv_at hl 0 rfl) ?_
          refine lv_iload_n hx hb dX3_add_60 rfl (lv_at hl 2 rfl) ?_
          obtain ⟨hin, h⟩ := h
          refine va_iast hx hb hKn.k hP hD hS 3 0 rfl rfl hin dX3_add_61 (fun H locs hP hD hS => ?_)
          obtain ⟨q6, eq6⟩ : ∃ z : qS, z = up2 q 2 (Int32.toNatClampNeg y4) p0 := ⟨_, rfl⟩
          have hP : va_P G.1 vwCl (wQ G a q6 ++ R) H := by rw [eq6]; exact hP
          have hD : va_D A (wQ G a q6 ++ R) := by rw [eq6]; exact hD
          have h := h q6 eq6
          refine lv_aload_n hx hb dX3_add_62 rfl (lv_at hl 1 rfl) ?_
          refine va_get (D := G.1) (ci := 3) (v := .ref (a 3)) (C := RX3) (T := TX3) (N := 5) hx hb hts iX3_add_X3 hown hKn.k hP 2 rfl rfl 1 (by decide) (hts _ lX3_add_f15) (fun _ h9 => h9) rfl dX3_add_63 ?_
          refine lv_iload hx hb dX3_add_66 (lv_at hl 0 rfl) ?_
          refine lv_iconst (v := (0 : Int32)) hx hb dX3_add_68 (by decide) ?_
          obtain ⟨hin, h⟩ := h
          refine va_iast hx hb hKn.k hP hD hS 4 0 rfl rfl hin dX3_add_69 (fun H locs hP hD hS => ?_)
          obtain ⟨q7, eq7⟩ : ∃ z : qS, z = up2 q6 3 (Int32.toNatClampNeg y4) (0 : Int32) := ⟨_, rfl⟩
          have hP : va_P G.1 vwCl (wQ G a q7 ++ R) H := by rw [eq7]; exact hP
          have hD : va_D A (wQ G a q7 ++ R) := by rw [eq7]; exact hD
          have h := h q7 eq7
          refine lv_aload_n hx hb dX3_add_70 rfl (lv_at hl 1 rfl) ?_
          refine va_get (D := G.1) (ci := 3) (v := .ref (a 4)) (C := RX3) (T := TX3) (N := 5) hx hb hts iX3_add_X3 hown hKn.k hP 2 rfl rfl 2 (by decide) (hts _ lX3_add_f18) (fun _ h9 => h9) rfl dX3_add_71 ?_
          refine lv_iload hx hb dX3_add_74 (lv_at hl 0 rfl) ?_
          refine lv_iload_n hx hb dX3_add_76 rfl (lv_at hl 3 rfl) ?_
          obtain ⟨hin, h⟩ := h
          refine va_iast hx hb hKn.k hP hD hS 5 0 rfl rfl hin dX3_add_77 (fun H locs hP hD hS => ?_)
          obtain ⟨q8, eq8⟩ : ∃ z : qS, z = up2 q7 4 (Int32.toNatClampNeg y4) p1 := ⟨_, rfl⟩
          have hP : va_P G.1 vwCl (wQ G a q8 ++ R) H := by rw [eq8]; exact hP
          have hD : va_D A (wQ G a q8 ++ R) := by rw [eq8]; exact hD
          have h := h q8 eq8
          refine lv_aload_n hx hb dX3_add_78 rfl (lv_at hl 1 rfl) ?_
          refine va_get (D := G.1) (ci := 3) (v := .ref (a 5)) (C := RX3) (T := TX3) (N := 5) hx hb hts iX3_add_X3 hown hKn.k hP 2 rfl rfl 3 (by decide) (hts _ lX3_add_f21) (fun _ h9 => h9) rfl dX3_add_79 ?_
          refine lv_iload hx hb dX3_add_82 (lv_at hl 0 rfl) ?_
          refine lv_iload_n hx hb dX3_add_84 rfl (lv_at hl 4 rfl) ?_
          obtain ⟨hin, h⟩ := h
          refine va_iast hx hb hKn.k hP hD hS 6 0 rfl rfl hin dX3_add_85 (fun H locs hP hD hS => ?_)
          obtain ⟨q9, eq9⟩ : ∃ z : qS, z = up2 q8 5 (Int32.toNatClampNeg y4) p2 := ⟨_, rfl⟩
          have hP : va_P G.1 vwCl (wQ G a q9 ++ R) H := by rw [eq9]; exact hP
          have hD : va_D A (wQ G a q9 ++ R) := by rw [eq9]; exact hD
          have h := h q9 eq9
          refine lv_aload_n hx hb dX3_add_86 rfl (lv_at hl 1 rfl) ?_
          refine lv_dup hx hb dX3_add_87 rfl ?_
          refine va_get (D := G.1) (ci := 3) (v := .int (q9 0 4)) (C := RX3) (T := TX3) (N := 5) hx hb hts iX3_add_X3 hown hKn.k hP 2 rfl rfl 4 (by decide) (hts _ lX3_add_f28) (fun _ h9 => h9) rfl dX3_add_88 ?_
          refine lv_iconst (v := (1 : Int32)) hx hb dX3_add_91 (by decide) ?_
          refine lv_iadd hx hb dX3_add_92 ?_
          refine lv_topi (fun y10 ey10 => ?_)
          have h := h y10 ey10
          refine va_put (D := G.1) (ci := 3) (v := .int y10) (ty := .int) (C := RX3) (T := TX3) (N := 5) hx hb hts iX3_add_X3 tyX3 tyX3_ok nmX3 hown hKn.k hP hD hS 2 rfl rfl 4 (by decide) (hts _ lX3_add_f28) (fun _ h9 => h9) rfl (by decide +kernel) rfl rfl (Nat.le_of_ble_eq_true rfl) dX3_add_93 (fun H locs hP hD hS => ?_)
          obtain ⟨q11, eq11⟩ : ∃ z : qS, z = up2 q9 0 4 y10 := ⟨_, rfl⟩
          have hP : va_P G.1 vwCl (wQ G a q11 ++ R) H := by rw [eq11]; exact hP
          have hD : va_D A (wQ G a q11 ++ R) := by rw [eq11]; exact hD
          have h := h q11 eq11
          refine lv_iload hx hb dX3_add_96 (lv_at hl 0 rfl) ?_
          exact hret _ _ _ _ _ _ h hP hD hS dX3_add_98
        · have h := h.2 c1
          refine lv_bipush (v := (-4 : Int32)) hx hb dX3_add_51 (by decide) ?_
          exact hret _ _ _ _ _ _ h hP hD hS dX3_add_53
      · have h := h.2 c1
        exact kX3_add_b31 hx hb hml hown hts hA hKn hret q _ _ _ h hP hD hS (lv_sub hl [] rfl)
abbrev rmX3_fullest : Room := { frames := 0, cells := 0, slots := 0, locals := 0 }
theorem lX3_fullest_f28 : Cond.fieldLink RX3 28 "QuarryBlends$Faces" "amount" "I" ∈ wsX3_fullest := by decide +kernel
theorem lX3_fullest_f9 : Cond.fieldLink RX3 9 "QuarryBlends$Faces" "left" "[I" ∈ wsX3_fullest := by decide +kernel
theorem iX3_fullest_X3 : ∀ w ∈ wsX30, w ∈ wsX3_fullest := by decide +kernel
set_option maxHeartbeats 4000000 in
set_option maxRecDepth 100000 in
theorem kX3_fullest_b40 {p : Program} {l : Launch} {e : Env} {s : State} {m : MethodId} {args : Array Value} {below : List Frame} {meth : Method} {c : Code} {G : qG} {A : Nat → Prop} {Qf : State → Prop} {R : va_W} {a : Nat → Nat} {k : Int32 → qS → Prop} (hx : p.tables.exec = Jvm.exec) (hb : c.code = cX3_fullest) (hml : c.maxLocals = 4) (hown : s.vm.findClass RX3 = some m.cls) (hts : ∀ w ∈ wsX3_fullest, w.before args s = true) (hA : ∀ q : Nat, s.heap.size ≤ q → A q) (hKn : qKn G A s s.heap) (hret : ∀ (r : Int32) (q : qS) (H : Heap) (locs : List Loc) (ls : Array Slot) (pc : Nat), k r q → va_P G.1 vwCl (wQ G a q ++ R) H → va_D A (wQ G a q ++ R) → va_S A s.heap H locs → decode cX3_fullest pc = .ok (.ireturn, 1) → W p l e rmX3_fullest s m args below meth c H locs 0 0 Qf (F0 m pc ls [.int r])) {kb7 : qS → Int32 → Int32 → Int32 → Prop} (hkb7 : ∀ (q : qS) (x1 : Int32) (x2 : Int32) (x3 : Int32) (H : Heap) (locs : List Loc) (ls : Array Slot), kb7 q x1 x2 x3 → va_P G.1 vwCl (wQ G a q ++ R) H → va_D A (wQ G a q ++ R) → va_S A s.heap H locs → lv_has ls 4 [(0, .ref (a 13)), (1, .int x1), (2, .int x2), (3, .int x3)] → W p l e rmX3_fullest s m args below meth c H locs 0 0 Qf (F0 m 7 ls [])) : ∀ (q : qS) (x1 : Int32) (x2 : Int32) (x3 : Int32) (H : Heap) (locs : List Loc) (ls : Array Slot), wX3_fullest_b40 k kb7 q x1 x2 x3 → va_P G.1 vwCl (wQ G a q ++ R) H → va_D A (wQ G a q ++ R) → va_S A s.heap H locs → lv_has ls 4 [(0, .ref (a 13)), (1, .int x1), (2, .int x2), (3, .int x3)] → W p l e rmX3_fullest s m args below meth c H locs 0 0 Qf (F0 m 40 ls []) := by
  intro q x1 x2 x3 H locs ls h hP hD hS hl
  unfold wX3_fullest_b40 at h
  obtain ⟨y1, ey1⟩ : ∃ z : Int32, z = x3 + (1 : Int32) := ⟨_, rfl⟩
  have h := h y1 ey1
  refine lv_iinc (v := y1) (lv' := [(3, .int y1), (0, .ref (a 13)), (1, .int x1), (2, .int x2)]) hx hb dX3_fullest_40 hl (k := 3) rfl (by rw [ey1]; rfl) (by decide) rfl (fun ls hl => ?_)
  refine lv_goto (tgt := 7) hx hb dX3_fullest_43 (by decide) ?_
  exact hkb7 q x1 x2 y1 _ _ _ h hP hD hS (lv_sub hl [1, 2, 3, 0] rfl)
set_option maxHeartbeats 4000000 in
set_option maxRecDepth 100000 in
theorem kX3_fullest_b46 {p : Program} {l : Launch} {e : Env} {s : State} {m : MethodId} {args : Array Value} {below : List Frame} {meth : Method} {c : Code} {G : qG} {A : Nat → Prop} {Qf : State → Prop} {R : va_W} {a : Nat → Nat} {k : Int32 → qS → Prop} (hx : p.tables.exec = Jvm.exec) (hb : c.code = cX3_fullest) (hml : c.maxLocals = 4) (hown : s.vm.findClass RX3 = some m.cls) (hts : ∀ w ∈ wsX3_fullest, w.before args s = true) (hA : ∀ q : Nat, s.heap.size ≤ q → A q) (hKn : qKn G A s s.heap) (hret : ∀ (r : Int32) (q : qS) (H : Heap) (locs : List Loc) (ls : Array Slot) (pc : Nat), k r q → va_P G.1 vwCl (wQ G a q ++ R) H → va_D A (wQ G a q ++ R) → va_S A s.heap H locs → decode cX3_fullest pc = .ok (.ireturn, 1) → W p l e rmX3_fullest s m args below meth c H locs 0 0 Qf (F0 m pc ls [.int r])) : ∀ (q : qS) (x1 : Int32) (H : Heap) (locs : List Loc) (ls : Array Slot), wX3_fullest_b46 k q x1 → va_P G.1 vwCl (wQ G a q ++ R) H → va_D A (wQ G a q ++ R) → va_S A s.heap H locs → lv_has ls 4 [(1, .int x1)] → W p l e rmX3_fullest s m args below meth c H locs 0 0 Qf (F0 m 46 ls []) := by
  intro q x1 H locs ls h hP hD hS hl
  unfold wX3_fullest_b46 at h
  refine lv_iload_n hx hb dX3_fullest_46 rfl (lv_at hl 0 rfl) ?_
  exact hret _ _ _ _ _ _ h hP hD hS dX3_fullest_47
set_option maxHeartbeats 4000000 in
set_option maxRecDepth 100000 in
theorem kX3_fullest_b7 {p : Program} {l : Launch} {e : Env} {s : State} {m : MethodId} {args : Array Value} {below : List Frame} {meth : Method} {c : Code} {G : qG} {A : Nat → Prop} {Qf : State → Prop} {R : va_W} {a : Nat → Nat} {k : Int32 → qS → Prop} (hx : p.tables.exec = Jvm.exec) (hb : c.code = cX3_fullest) (hml : c.maxLocals = 4) (hown : s.vm.findClass RX3 = some m.cls) (hts : ∀ w ∈ wsX3_fullest, w.before args s = true) (hA : ∀ q : Nat, s.heap.size ≤ q → A q) (hKn : qKn G A s s.heap) (hret : ∀ (r : Int32) (q : qS) (H : Heap) (locs : List Loc) (ls : Array Slot) (pc : Nat), k r q → va_P G.1 vwCl (wQ G a q ++ R) H → va_D A (wQ G a q ++ R) → va_S A s.heap H locs → decode cX3_fullest pc = .ok (.ireturn, 1) → W p l e rmX3_fullest s m args below meth c H locs 0 0 Qf (F0 m pc ls [.int r])) : ∀ (n : Nat) (q : qS) (x1 : Int32) (x2 : Int32) (x3 : Int32) (H : Heap) (locs : List Loc) (ls : Array Slot), wX3_fullest_b7 k n q x1 x2 x3 → va_P G.1 vwCl (wQ G a q ++ R) H → va_D A (wQ G a q ++ R) → va_S A s.heap H locs → lv_has ls 4 [(0, .ref (a 13)), (1, .int x1), (2, .int x2), (3, .int x3)] → W p l e rmX3_fullest s m args below meth c H locs 0 0 Qf (F0 m 7 ls []) := by
  intro n
  induction n with
  | zero => intros; rename_i h _ _ _ _; exact h.elim
  | succ n ih =>
    intro q x1 x2 x3 H locs ls h hP hD hS hl
    unfold wX3_fullest_b7 at h
    refine lv_iload_n hx hb dX3_fullest_7 rfl (lv_at hl 3 rfl) ?_
    refine lv_aload_n hx hb dX3_fullest_8 rfl (lv_at hl 0 rfl) ?_
    refine va_get (D := G.1) (ci := 3) (v := .int (q 0 4)) (C := RX3) (T := TX3) (N := 5) hx hb hts iX3_fullest_X3 hown hKn.k hP 2 rfl rfl 4 (by decide) (hts _ lX3_fullest_f28) (fun _ h9 => h9) rfl dX3_fullest_9 ?_
    refine lv_icmp_ge (tgt := 46) hx hb dX3_fullest_12 (by decide) (fun c1 => ?_) (fun c1 => ?_)
    · have h := h.1 c1
      exact kX3_fullest_b46 hx hb hml hown hts hA hKn hret q x1 _ _ _ h hP hD hS (lv_sub hl [1] rfl)
    · have h := h.2 c1
      refine lv_iload_n hx hb dX3_fullest_15 rfl (lv_at hl 3 rfl) ?_
      refine lv_bipush (v := (8 : Int32)) hx hb dX3_fullest_16 (by decide) ?_
      refine lv_icmp_ge (tgt := 46) hx hb dX3_fullest_18 (by decide) (fun c1 => ?_) (fun c1 => ?_)
      · have h := h.1 c1
        exact kX3_fullest_b46 hx hb hml hown hts hA hKn hret q x1 _ _ _ h hP hD hS (lv_sub hl [1] rfl)
      · have h := h.2 c1
        refine lv_aload_n hx hb dX3_fullest_21 rfl (lv_at hl 0 rfl) ?_
        refine va_get (D := G.1) (ci := 3) (v := .ref (a 2)) (C := RX3) (T := TX3) (N := 5) hx hb hts iX3_fullest_X3 hown hKn.k hP 2 rfl rfl 0 (by decide) (hts _ lX3_fullest_f9) (fun _ h9 => h9) rfl dX3_fullest_22 ?_
        refine lv_iload_n hx hb dX3_fullest_25 rfl (lv_at hl 3 rfl) ?_
        obtain ⟨hin, h⟩ := h
        refine va_iald hx hb hKn.k hP 3 0 rfl rfl hin dX3_fullest_26 ?_
        refine lv_iload_n hx hb dX3_fullest_27 rfl (lv_at hl 2 rfl) ?_
        refine lv_icmp_le (tgt := 40) hx hb dX3_fullest_28 (by decide) (fun c1 => ?_) (fun c1 => ?_)
        · have h := h.1 c1
          exact kX3_fullest_b40 hx hb hml hown hts hA hKn hret ih q x1 x2 x3 _ _ _ h hP hD hS (lv_sub hl [0, 1, 2, 3] rfl)
        · have h := h.2 c1
          refine lv_aload_n hx hb dX3_fullest_31 rfl (lv_at hl 0 rfl) ?_
          refine va_get (D := G.1) (ci := 3) (v := .ref (a 2)) (C := RX3) (T := TX3) (N := 5) hx hb hts iX3_fullest_X3 hown hKn.k hP 2 rfl rfl 0 (by decide) (hts _ lX3_fullest_f9) (fun _ h9 => h9) rfl dX3_fullest_32 ?_
          refine lv_iload_n hx hb dX3_fullest_35 rfl (lv_at hl 3 rfl) ?_
          obtain ⟨hin, h⟩ := h
          refine va_iald hx hb hKn.k hP 3 0 rfl rfl hin dX3_fullest_36 ?_
          refine lv_topi (fun y2 ey2 => ?_)
          have h := h y2 ey2
          refine lv_istore_n (lv' := [(2, .int y2), (0, .ref (a 13)), (1, .int x1), (3, .int x3)]) hx hb dX3_fullest_37 rfl hl (by decide) rfl (fun ls hl => ?_)
          refine lv_iload_n hx hb dX3_fullest_38 rfl (lv_at hl 3 rfl) ?_
          refine lv_istore_n (lv' := [(1, .int x3), (2, .int y2), (0, .ref (a 13)), (3, .int x3)]) hx hb dX3_fullest_39 rfl hl (by decide) rfl (fun ls hl => ?_)
          exact kX3_fullest_b40 hx hb hml hown hts hA hKn hret ih q x3 y2 x3 _ _ _ h hP hD hS (lv_sub hl [2, 0, 1, 3] rfl)
set_option maxHeartbeats 4000000 in
set_option maxRecDepth 100000 in
theorem mX3_fullest (l : Launch) (G : qG) (k : Int32 → qS → Prop) (R : va_W) (a : Nat → Nat) (q : qS) (sz : Nat) : Met l yX3_fullest wsX3_fullest rmX3_fullest (qPc G [.ref (a 13)] (wQ G a q ++ R) sz (wX3_fullest k q)) (qQi G (wQ G a q ++ R) sz (fun (r : Int32) (u : qS) => k r u) (fun (u : qS) => wQ G a u ++ R)) 0 0 (va_A (wQ G a q ++ R) sz) := by
  refine Met.ofW (cc := cX3_fullest) (maxL := 4) (ret := (some .int)) (by decide) rfl ?_
  intro p e s m args below meth c s₁ B hml hv
  obtain ⟨rfl, hsz, hP, hD0, hKn0, h⟩ := hv
  have hx := B.exec
  have hb := B.bytes
  have hr := B.returns
  have hts := atoms_spec (ws := wsX3_fullest) B.pre
  have hown : s.vm.findClass RX3 = some m.cls := findClass_of_methodNamed B.named
  have hlocks := B.notSynchronized
  subst hsz
  have hD := hD0.self (sz := s.heap.size)
  generalize hAe : va_A (wQ G a q ++ R) s.heap.size = A at hD hKn0 ⊢
  have hA : ∀ q : Nat, s.heap.size ≤ q → A q := fun q h => by rw [← hAe]; exact Or.inr h
  have hKn : qKn G A s s.heap := hKn0
  have hS : va_S A s.heap s.heap [] := va_S.rf
  have hret : ∀ (r : Int32) (q' : qS) (H : Heap) (locs : List Loc) (ls : Array Slot) (pc : Nat), k r q' → va_P G.1 vwCl (wQ G a q' ++ R) H → va_D A (wQ G a q' ++ R) → va_S A s.heap H locs → decode cX3_fullest pc = .ok (.ireturn, 1) → W p l e rmX3_fullest s m #[.ref (a 13)] below meth c H locs 0 0 (MQ below (qQi G (wQ G a q ++ R) s.heap.size (fun (r : Int32) (u : qS) => k r u) (fun (u : qS) => wQ G a u ++ R)) #[.ref (a 13)] s 0 0 A) (F0 m pc ls [.int r]) := fun r q' H locs ls pc hk hP hD hS hd => W.iret hx hb hr (fun t ht hW => q_ri (u := (q' : qS)) hAe hk hP hD hS ht) hS.2.2 hd
  have hl := lv_entry ([.ref (a 13)]) (n := 4) (Nat.le_of_ble_eq_true rfl)
  rw [lg_entry_eq]
  generalize (lg_sl ([.ref (a 13)]) ++ List.replicate (4 - (lg_sl ([.ref (a 13)])).length) Slot.unset).toArray = ls at hl ⊢
  have hl : lv_has ls 4 [(0, .ref (a 13))] := hl
  unfold wX3_fullest at h
  show W p l e rmX3_fullest s m #[.ref (a 13)] below meth c s.heap [] 0 0 _ _
  refine lv_bipush (v := (-6 : Int32)) hx hb dX3_fullest_0 (by decide) ?_
  refine lv_istore_n (lv' := [(1, .int (-6 : Int32)), (0, .ref (a 13))]) hx hb dX3_fullest_2 rfl hl (by decide) rfl (fun ls hl => ?_)
  refine lv_iconst (v := (0 : Int32)) hx hb dX3_fullest_3 (by decide) ?_
  refine lv_istore_n (lv' := [(2, .int (0 : Int32)), (1, .int (-6 : Int32)), (0, .ref (a 13))]) hx hb dX3_fullest_4 rfl hl (by decide) rfl (fun ls hl => ?_)
  refine lv_iconst (v := (0 : Int32)) hx hb dX3_fullest_5 (by decide) ?_
  refine lv_istore_n (lv' := [(3, .int (0 : Int32)), (2, .int (0 : Int32)), (1, .int (-6 : Int32)), (0, .ref (a 13))]) hx hb dX3_fullest_6 rfl hl (by decide) rfl (fun ls hl => ?_)
  obtain ⟨n3, h⟩ := h
  exact kX3_fullest_b7 hx hb hml hown hts hA hKn hret n3 q (-6 : Int32) (0 : Int32) (0 : Int32) _ _ _ h hP hD hS (lv_sub hl [3, 2, 1, 0] rfl)
abbrev rmX3_take : Room := { frames := 1, cells := 0, slots := 0, locals := 21 }
theorem lX3_take_cmin : Cond.code Lib.Math.min.name Lib.Math.min.code 2 (some .int) ∈ wsX3_take := by decide +kernel
theorem lX3_take_f15 : Cond.fieldLink RX3 15 "QuarryBlends$Faces" "taken" "[I" ∈ wsX3_take := by decide +kernel
theorem lX3_take_f9 : Cond.fieldLink RX3 9 "QuarryBlends$Faces" "left" "[I" ∈ wsX3_take := by decide +kernel
theorem lX3_take_im : Cond.initialized "java/lang/Math" ∈ wsX3_take := by decide +kernel
theorem lX3_take_m40 : Cond.methodLink RX3 40 Lib.Math.min.name ∈ wsX3_take := by decide +kernel
theorem lX3_take_smin : Cond.static Lib.Math.min.name ∈ wsX3_take := by decide +kernel
theorem iX3_take_X3 : ∀ w ∈ wsX30, w ∈ wsX3_take := by decide +kernel
set_option maxHeartbeats 4000000 in
set_option maxRecDepth 100000 in
theorem mX3_take (l : Launch) (G : qG) (k : Int32 → qS → Prop) (R : va_W) (a : Nat → Nat) (q : qS) (sz : Nat) (p0 : Int32) (p1 : Int32) : Met l yX3_take wsX3_take rmX3_take (qPc G [.ref (a 13), .int p0, .int p1] (wQ G a q ++ R) sz (wX3_take k q p0 p1)) (qQi G (wQ G a q ++ R) sz (fun (r : Int32) (u : qS) => k r u) (fun (u : qS) => wQ G a u ++ R)) 0 0 (va_A (wQ G a q ++ R) sz) := by
  refine Met.ofW (cc := cX3_take) (maxL := 4) (ret := (some .int)) (by decide) rfl ?_
  intro p e s m args below meth c s₁ B hml hv
  obtain ⟨rfl, hsz, hP, hD0, hKn0, h⟩ := hv
  have hx := B.exec
  have hb := B.bytes
  have hr := B.returns
  have hts := atoms_spec (ws := wsX3_take) B.pre
  have hown : s.vm.findClass RX3 = some m.cls := findClass_of_methodNamed B.named
  have hlocks := B.notSynchronized
  subst hsz
  have hD := hD0.self (sz := s.heap.size)
  generalize hAe : va_A (wQ G a q ++ R) s.heap.size = A at hD hKn0 ⊢
  have hA : ∀ q : Nat, s.heap.size ≤ q → A q := fun q h => by rw [← hAe]; exact Or.inr h
  have hKn : qKn G A s s.heap := hKn0
  have hS : va_S A s.heap s.heap [] := va_S.rf
  have hret : ∀ (r : Int32) (q' : qS) (H : Heap) (locs : List Loc) (ls : Array Slot) (pc : Nat), k r q' → va_P G.1 vwCl (wQ G a q' ++ R) H → va_D A (wQ G a q' ++ R) → va_S A s.heap H locs → decode cX3_take pc = .ok (.ireturn, 1) → W p l e rmX3_take s m #[.ref (a 13), .int p0, .int p1] below meth c H locs 0 0 (MQ below (qQi G (wQ G a q ++ R) s.heap.size (fun (r : Int32) (u : qS) => k r u) (fun (u : qS) => wQ G a u ++ R)) #[.ref (a 13), .int p0, .int p1] s 0 0 A) (F0 m pc ls [.int r]) := fun r q' H locs ls pc hk hP hD hS hd => W.iret hx hb hr (fun t ht hW => q_ri (u := (q' : qS)) hAe hk hP hD hS ht) hS.2.2 hd
  have hl := lv_entry ([.ref (a 13), .int p0, .int p1]) (n := 4) (Nat.le_of_ble_eq_true rfl)
  rw [lg_entry_eq]
  generalize (lg_sl ([.ref (a 13), .int p0, .int p1]) ++ List.replicate (4 - (lg_sl ([.ref (a 13), .int p0, .int p1])).length) Slot.unset).toArray = ls at hl ⊢
  have hl : lv_has ls 4 [(0, .ref (a 13)), (1, .int p0), (2, .int p1)] := hl
  unfold wX3_take at h
  show W p l e rmX3_take s m #[.ref (a 13), .int p0, .int p1] below meth c s.heap [] 0 0 _ _
  refine lv_aload_n hx hb dX3_take_0 rfl (lv_at hl 0 rfl) ?_
  refine lv_iload_n hx hb dX3_take_1 rfl (lv_at hl 1 rfl) ?_
  refine qc_vi (As := [.int p0]) (rest := []) ⟨hx, hb, hml, hown, hts⟩ (mX3_has l G _ _ a q _ p0) (cwV 1 hts gX3_take_X3_has rfl rfl rfl (by decide +kernel) ⟨Nat.le_of_ble_eq_true rfl, Nat.le_of_ble_eq_true rfl⟩) hP hD hS hA hKn 2 3 rfl rfl rfl h rfl hl.1 rfl (Nat.le_of_ble_eq_true rfl) dX3_take_2 ⟨Nat.zero_le _, Nat.zero_le _⟩ (fun r1 q2 H locs h hP hD hS => ?_)
  have hP : va_P G.1 vwCl (wQ G a q2 ++ R) H := hP
  have hD : va_D A (wQ G a q2 ++ R) := hD
  refine lv_if_ne (tgt := 10) hx hb dX3_take_5 (by decide) (fun c1 => ?_) (fun c1 => ?_)
  · have h := h.1 c1
    refine lv_iload_n hx hb dX3_take_10 rfl (lv_at hl 2 rfl) ?_
    refine lv_aload_n hx hb dX3_take_11 rfl (lv_at hl 0 rfl) ?_
    refine va_get (D := G.1) (ci := 3) (v := .ref (a 2)) (C := RX3) (T := TX3) (N := 5) hx hb hts iX3_take_X3 hown hKn.k hP 2 rfl rfl 0 (by decide) (hts _ lX3_take_f9) (fun _ h9 => h9) rfl dX3_take_12 ?_
    refine lv_iload_n hx hb dX3_take_15 rfl (lv_at hl 1 rfl) ?_
    obtain ⟨hin, h⟩ := h
    refine va_iald hx hb hKn.k hP 3 0 rfl rfl hin dX3_take_16 ?_
    refine va_mmin hx hb (hml.trans hl.1.symm) hown (hts _ lX3_take_m40) (hts _ lX3_take_smin) (hts _ lX3_take_im) (hts _ lX3_take_cmin) (Nat.le_of_ble_eq_true rfl) (Nat.le_of_ble_eq_true rfl) (Nat.zero_le _) (Nat.zero_le _) dX3_take_17 ?_
    refine lv_topi (fun y3 ey3 => ?_)
    have h := h y3 ey3
    refine lv_istore_n (lv' := [(3, .int y3), (0, .ref (a 13)), (1, .int p0), (2, .int p1)]) hx hb dX3_take_20 rfl hl (by decide) rfl (fun ls hl => ?_)
    refine lv_aload_n hx hb dX3_take_21 rfl (lv_at hl 1 rfl) ?_
    refine va_get (D := G.1) (ci := 3) (v := .ref (a 2)) (C := RX3) (T := TX3) (N := 5) hx hb hts iX3_take_X3 hown hKn.k hP 2 rfl rfl 0 (by decide) (hts _ lX3_take_f9) (fun _ h9 => h9) rfl dX3_take_22 ?_
    refine lv_iload_n hx hb dX3_take_25 rfl (lv_at hl 2 rfl) ?_
    refine lv_dup2_11 hx hb dX3_take_26 rfl rfl ?_
    obtain ⟨hin, h⟩ := h
    refine va_iald hx hb hKn.k hP 3 0 rfl rfl hin dX3_take_27 ?_
    refine lv_iload_n hx hb dX3_take_28 rfl (lv_at hl 0 rfl) ?_
    refine lv_isub hx hb dX3_take_29 ?_
    refine lv_topi (fun y4 ey4 => ?_)
    have h := h y4 ey4
    obtain ⟨hin, h⟩ := h
    refine va_iast hx hb hKn.k hP hD hS 3 0 rfl rfl hin dX3_take_30 (fun H locs hP hD hS => ?_)
    obtain ⟨q5, eq5⟩ : ∃ z : qS, z = up2 q2 2 (Int32.toNatClampNeg p0) y4 := ⟨_, rfl⟩
    have hP : va_P G.1 vwCl (wQ G a q5 ++ R) H := by rw [eq5]; exact hP
    have hD : va_D A (wQ G a q5 ++ R) := by rw [eq5]; exact hD
    have h := h q5 eq5
    refine lv_aload_n hx hb dX3_take_31 rfl (lv_at hl 1 rfl) ?_
    refine va_get (D := G.1) (ci := 3) (v := .ref (a 3)) (C := RX3) (T := TX3) (N := 5) hx hb hts iX3_take_X3 hown hKn.k hP 2 rfl rfl 1 (by decide) (hts _ lX3_take_f15) (fun _ h9 => h9) rfl dX3_take_32 ?_
    refine lv_iload_n hx hb dX3_take_35 rfl (lv_at hl 2 rfl) ?_
    refine lv_dup2_11 hx hb dX3_take_36 rfl rfl ?_
    obtain ⟨hin, h⟩ := h
    refine va_iald hx hb hKn.k hP 4 0 rfl rfl hin dX3_take_37 ?_
    refine lv_iload_n hx hb dX3_take_38 rfl (lv_at hl 0 rfl) ?_
    refine lv_iadd hx hb dX3_take_39 ?_
    refine lv_topi (fun y6 ey6 => ?_)
    have h := h y6 ey6
    obtain ⟨hin, h⟩ := h
    refine va_iast hx hb hKn.k hP hD hS 4 0 rfl rfl hin dX3_take_40 (fun H locs hP hD hS => ?_)
    obtain ⟨q7, eq7⟩ : ∃ z : qS, z = up2 q5 3 (Int32.toNatClampNeg p0) y6 := ⟨_, rfl⟩
    have hP : va_P G.1 vwCl (wQ G a q7 ++ R) H := by rw [eq7]; exact hP
    have hD : va_D A (wQ G a q7 ++ R) := by rw [eq7]; exact hD
    have h := h q7 eq7
    refine lv_iload_n hx hb dX3_take_41 rfl (lv_at hl 0 rfl) ?_
    exact hret _ _ _ _ _ _ h hP hD hS dX3_take_42
  · have h := h.2 c1
    refine lv_iconst (v := (0 : Int32)) hx hb dX3_take_8 (by decide) ?_
    exact hret _ _ _ _ _ _ h hP hD hS dX3_take_9
abbrev rmX5_charactersIn : Room := { frames := 1, cells := 0, slots := 0, locals := 22 }
theorem lX5_charactersIn_c19 : Cond.constantLong RX5 19 (255) ∈ wsX5_charactersIn := by decide +kernel
theorem lX5_charactersIn_nX9 : Cond.initialized RX9 ∈ wsX5_charactersIn := by decide +kernel
theorem lX5_charactersIn_sX9_within : Cond.static yX9_within ∈ wsX5_charactersIn := by decide +kernel
set_option maxHeartbeats 4000000 in
set_option maxRecDepth 100000 in
theorem kX5_charactersIn_b45 {p : Program} {l : Launch} {e : Env} {s : State} {m : MethodId} {args : Array Value} {below : List Frame} {meth : Method} {c : Code} {G : qG} {A : Nat → Prop} {Qf : State → Prop} {R : va_W}  {k : Int32 → Prop} (hx : p.tables.exec = Jvm.exec) (hb : c.code = cX5_charactersIn) (hml : c.maxLocals = 5) (hown : s.vm.findClass RX5 = some m.cls) (hts : ∀ w ∈ wsX5_charactersIn, w.before args s = true) (hA : ∀ q : Nat, s.heap.size ≤ q → A q) (hKn : qKn G A s s.heap) (hret : ∀ (r : Int32)  (H : Heap) (locs : List Loc) (ls : Array Slot) (pc : Nat), k r  → va_P G.1 vwCl (R) H → va_D A (R) → va_S A s.heap H locs → decode cX5_charactersIn pc = .ok (.ireturn, 1) → W p l e rmX5_charactersIn s m args below meth c H locs 0 0 Qf (F0 m pc ls [.int r])) : ∀  (x2 : Int32) (H : Heap) (locs : List Loc) (ls : Array Slot), wX5_charactersIn_b45 k x2 → va_P G.1 vwCl (R) H → va_D A (R) → va_S A s.heap H locs → lv_has ls 5 [(2, .int x2)] → W p l e rmX5_charactersIn s m args below meth c H locs 0 0 Qf (F0 m 45 ls []) := by
  intro x2 H locs ls h hP hD hS hl
  unfold wX5_charactersIn_b45 at h
  refine lv_iload_n hx hb dX5_charactersIn_45 rfl (lv_at hl 0 rfl) ?_
  exact hret _ _ _ _ _ h hP hD hS dX5_charactersIn_46
set_option maxHeartbeats 4000000 in
set_option maxRecDepth 100000 in
theorem kX5_charactersIn_b4 {p : Program} {l : Launch} {e : Env} {s : State} {m : MethodId} {args : Array Value} {below : List Frame} {meth : Method} {c : Code} {G : qG} {A : Nat → Prop} {Qf : State → Prop} {R : va_W}  {k : Int32 → Prop} (hx : p.tables.exec = Jvm.exec) (hb : c.code = cX5_charactersIn) (hml : c.maxLocals = 5) (hown : s.vm.findClass RX5 = some m.cls) (hts : ∀ w ∈ wsX5_charactersIn, w.before args s = true) (hA : ∀ q : Nat, s.heap.size ≤ q → A q) (hKn : qKn G A s s.heap) (hret : ∀ (r : Int32)  (H : Heap) (locs : List Loc) (ls : Array Slot) (pc : Nat), k r  → va_P G.1 vwCl (R) H → va_D A (R) → va_S A s.heap H locs → decode cX5_charactersIn pc = .ok (.ireturn, 1) → W p l e rmX5_charactersIn s m args below meth c H locs 0 0 Qf (F0 m pc ls [.int r])) : ∀ (n : Nat)  (x2 : Int32) (x3 : Int64) (H : Heap) (locs : List Loc) (ls : Array Slot), wX5_charactersIn_b4 k n x2 x3 → va_P G.1 vwCl (R) H → va_D A (R) → va_S A s.heap H locs → lv_has ls 5 [(2, .int x2), (3, .long x3)] → W p l e rmX5_charactersIn s m args below meth c H locs 0 0 Qf (F0 m 4 ls []) := by
  intro n
  induction n with
  | zero => intros; rename_i h _ _ _ _; exact h.elim
  | succ n ih =>
    intro x2 x3 H locs ls h hP hD hS hl
    unfold wX5_charactersIn_b4 at h
    refine lv_iload_n hx hb dX5_charactersIn_4 rfl (lv_at hl 0 rfl) ?_
    refine lv_bipush (v := (8 : Int32)) hx hb dX5_charactersIn_5 (by decide) ?_
    refine lv_icmp_ge (tgt := 45) hx hb dX5_charactersIn_7 (by decide) (fun c1 => ?_) (fun c1 => ?_)
    · have h := h.1 c1
      exact kX5_charactersIn_b45 hx hb hml hown hts hA hKn hret x2 _ _ _ h hP hD hS (lv_sub hl [0] rfl)
    · have h := h.2 c1
      refine lv_lload_n hx hb dX5_charactersIn_10 rfl (lv_at hl 1 rfl) ?_
      refine lv_lconst (v := (0 : Int64)) hx hb dX5_charactersIn_11 (by decide) ?_
      refine W.lcmp hx hb dX5_charactersIn_12 ?_
      refine lv_if_eq (tgt := 45) hx hb dX5_charactersIn_13 (by decide) (fun c1 => ?_) (fun c1 => ?_)
      · have h := h.1 c1
        exact kX5_charactersIn_b45 hx hb hml hown hts hA hKn hret x2 _ _ _ h hP hD hS (lv_sub hl [0] rfl)
      · have h := h.2 c1
        refine lv_lload_n hx hb dX5_charactersIn_16 rfl (lv_at hl 1 rfl) ?_
        refine lv_ldc2 (v := (255 : Int64)) hx hb hown (hts _ lX5_charactersIn_c19) dX5_charactersIn_17 ?_
        refine lv_land hx hb dX5_charactersIn_20 ?_
        refine lv_l2i hx hb dX5_charactersIn_21 rfl ?_
        refine lv_bipush (v := (33 : Int32)) hx hb dX5_charactersIn_22 (by decide) ?_
        refine lv_bipush (v := (126 : Int32)) hx hb dX5_charactersIn_24 (by decide) ?_
        refine qc_ni (As := [.int ((x3 &&& (255 : Int64))).toInt32, .int (33 : Int32), .int (126 : Int32)]) (rest := []) ⟨hx, hb, hml, hown, hts⟩ (mX9_within l G _ _ _ ((x3 &&& (255 : Int64))).toInt32 (33 : Int32) (126 : Int32)) ⟨va_cnB 3 hts gX5_charactersIn_X9_within_n21 rfl rfl rfl (hKn.2.1 _ (List.mem_of_getElem? (i := 19) rfl)) (hts _ lX5_charactersIn_nX9) (by decide +kernel) ⟨Nat.le_of_ble_eq_true rfl, Nat.le_of_ble_eq_true rfl⟩, (hts _ lX5_charactersIn_sX9_within), trivial⟩ hP hD hS hA hKn h rfl hl.1 rfl (Nat.le_of_ble_eq_true rfl) dX5_charactersIn_26 ⟨Nat.zero_le _, Nat.zero_le _⟩ (fun r1 _ H locs h hP hD hS => ?_)
        have hP : va_P G.1 vwCl (R) H := hP
        have hD : va_D A (R) := hD
        refine lv_if_ne (tgt := 34) hx hb dX5_charactersIn_29 (by decide) (fun c1 => ?_) (fun c1 => ?_)
        · have h := h.1 c1
          refine lv_lload_n hx hb dX5_charactersIn_34 rfl (lv_at hl 1 rfl) ?_
          refine lv_bipush (v := (8 : Int32)) hx hb dX5_charactersIn_35 (by decide) ?_
          refine lv_lushr hx hb dX5_charactersIn_37 rfl ?_
          refine lv_lstore_n (lv' := [(3, .long (x3.toUInt64 >>> ((8 : Int32).toInt64.toUInt64 &&& Int64.toUInt64 63)).toInt64), (2, .int x2)]) hx hb dX5_charactersIn_38 rfl hl (by decide) rfl (fun ls hl => ?_)
          obtain ⟨y2, ey2⟩ : ∃ z : Int32, z = x2 + (1 : Int32) := ⟨_, rfl⟩
          have h := h y2 ey2
          refine lv_iinc (v := y2) (lv' := [(2, .int y2), (3, .long (x3.toUInt64 >>> ((8 : Int32).toInt64.toUInt64 &&& Int64.toUInt64 63)).toInt64)]) hx hb dX5_charactersIn_39 hl (k := 1) rfl (by rw [ey2]; rfl) (by decide) rfl (fun ls hl => ?_)
          refine lv_goto (tgt := 4) hx hb dX5_charactersIn_42 (by decide) ?_
          exact ih y2 (x3.toUInt64 >>> ((8 : Int32).toInt64.toUInt64 &&& Int64.toUInt64 63)).toInt64 _ _ _ h hP hD hS (lv_sub hl [0, 1] rfl)
        · have h := h.2 c1
          refine lv_iconst (v := (0 : Int32)) hx hb dX5_charactersIn_32 (by decide) ?_
          exact hret _ _ _ _ _ h hP hD hS dX5_charactersIn_33
set_option maxHeartbeats 4000000 in
set_option maxRecDepth 100000 in
theorem mX5_charactersIn (l : Launch) (G : qG) (k : Int32 → Prop) (R : va_W)  (sz : Nat) (p0 : Int64) : Met l yX5_charactersIn wsX5_charactersIn rmX5_charactersIn (qPc G [.long p0] (R) sz (wX5_charactersIn k  p0)) (qQi G (R) sz (fun (r : Int32) (u : Unit) => k r ) (fun (u : Unit) => R)) 0 0 (va_A (R) sz) := by
  refine Met.ofW (cc := cX5_charactersIn) (maxL := 5) (ret := (some .int)) (by decide) rfl ?_
  intro p e s m args below meth c s₁ B hml hv
  obtain ⟨rfl, hsz, hP, hD0, hKn0, h⟩ := hv
  have hx := B.exec
  have hb := B.bytes
  have hr := B.returns
  have hts := atoms_spec (ws := wsX5_charactersIn) B.pre
  have hown : s.vm.findClass RX5 = some m.cls := findClass_of_methodNamed B.named
  have hlocks := B.notSynchronized
  subst hsz
  have hD := hD0.self (sz := s.heap.size)
  generalize hAe : va_A (R) s.heap.size = A at hD hKn0 ⊢
  have hA : ∀ q : Nat, s.heap.size ≤ q → A q := fun q h => by rw [← hAe]; exact Or.inr h
  have hKn : qKn G A s s.heap := hKn0
  have hS : va_S A s.heap s.heap [] := va_S.rf
  have hret : ∀ (r : Int32)  (H : Heap) (locs : List Loc) (ls : Array Slot) (pc : Nat), k r  → va_P G.1 vwCl (R) H → va_D A (R) → va_S A s.heap H locs → decode cX5_charactersIn pc = .ok (.ireturn, 1) → W p l e rmX5_charactersIn s m #[.long p0] below meth c H locs 0 0 (MQ below (qQi G (R) s.heap.size (fun (r : Int32) (u : Unit) => k r ) (fun (u : Unit) => R)) #[.long p0] s 0 0 A) (F0 m pc ls [.int r]) := fun r  H locs ls pc hk hP hD hS hd => W.iret hx hb hr (fun t ht hW => q_ri (u := (() : Unit)) hAe hk hP hD hS ht) hS.2.2 hd
  have hl := lv_entry ([.long p0]) (n := 5) (Nat.le_of_ble_eq_true rfl)
  rw [lg_entry_eq]
  generalize (lg_sl ([.long p0]) ++ List.replicate (5 - (lg_sl ([.long p0])).length) Slot.unset).toArray = ls at hl ⊢
  have hl : lv_has ls 5 [(0, .long p0)] := hl
  unfold wX5_charactersIn at h
  show W p l e rmX5_charactersIn s m #[.long p0] below meth c s.heap [] 0 0 _ _
  refine lv_iconst (v := (0 : Int32)) hx hb dX5_charactersIn_0 (by decide) ?_
  refine lv_istore_n (lv' := [(2, .int (0 : Int32)), (0, .long p0)]) hx hb dX5_charactersIn_1 rfl hl (by decide) rfl (fun ls hl => ?_)
  refine lv_lload_n hx hb dX5_charactersIn_2 rfl (lv_at hl 1 rfl) ?_
  refine lv_lstore_n (lv' := [(3, .long p0), (2, .int (0 : Int32)), (0, .long p0)]) hx hb dX5_charactersIn_3 rfl hl (by decide) rfl (fun ls hl => ?_)
  obtain ⟨n3, h⟩ := h
  exact kX5_charactersIn_b4 hx hb hml hown hts hA hKn hret n3 (0 : Int32) p0 _ _ _ h hP hD hS (lv_sub hl [1, 0] rfl)
abbrev rmX5_append : Room := { frames := 1, cells := 0, slots := 0, locals := 22 }
theorem lX5_append_c19 : Cond.constantLong RX5 19 (255) ∈ wsX5_append := by decide +kernel
theorem lX5_append_f25 : Cond.fieldLink RX5 25 "QuarryBlends$Pad" "length" "I" ∈ wsX5_append := by decide +kernel
theorem lX5_append_f9 : Cond.fieldLink RX5 9 "QuarryBlends$Pad" "characters" "[C" ∈ wsX5_append := by decide +kernel
theorem lX5_append_nX9 : Cond.initialized RX9 ∈ wsX5_append := by decide +kernel
theorem lX5_append_sX9_within : Cond.static yX9_within ∈ wsX5_append := by decide +kernel
theorem iX5_append_X5 : ∀ w ∈ wsX50, w ∈ wsX5_append := by decide +kernel
set_option maxHeartbeats 4000000 in
set_option maxRecDepth 100000 in
theorem kX5_append_b61 {p : Program} {l : Launch} {e : Env} {s : State} {m : MethodId} {args : Array Value} {below : List Frame} {meth : Method} {c : Code} {G : qG} {A : Nat → Prop} {Qf : State → Prop} {R : va_W} {g : Nat → Nat} {k : qS → Prop} (hx : p.tables.exec = Jvm.exec) (hb : c.code = cX5_append) (hml : c.maxLocals = 5) (hown : s.vm.findClass RX5 = some m.cls) (hts : ∀ w ∈ wsX5_append, w.before args s = true) (hA : ∀ q : Nat, s.heap.size ≤ q → A q) (hKn : qKn G A s s.heap) (hret : ∀ (d : qS) (H : Heap) (locs : List Loc) (ls : Array Slot) (pc : Nat), k d → va_P G.1 vwCl (wD G g d ++ R) H → va_D A (wD G g d ++ R) → va_S A s.heap H locs → decode cX5_append pc = .ok (.return_, 1) → W p l e rmX5_append s m args below meth c H locs 0 0 Qf (F0 m pc ls [])) : ∀ (d : qS) (H : Heap) (locs : List Loc) (ls : Array Slot), wX5_append_b61 k d → va_P G.1 vwCl (wD G g d ++ R) H → va_D A (wD G g d ++ R) → va_S A s.heap H locs → lv_has ls 5 [] → W p l e rmX5_append s m args below meth c H locs 0 0 Qf (F0 m 61 ls []) := by
  intro d H locs ls h hP hD hS hl
  unfold wX5_append_b61 at h
  exact hret _ _ _ _ _ h hP hD hS dX5_append_61
set_option maxHeartbeats 4000000 in
set_option maxRecDepth 100000 in
theorem kX5_append_b5 {p : Program} {l : Launch} {e : Env} {s : State} {m : MethodId} {args : Array Value} {below : List Frame} {meth : Method} {c : Code} {G : qG} {A : Nat → Prop} {Qf : State → Prop} {R : va_W} {g : Nat → Nat} {k : qS → Prop} (hx : p.tables.exec = Jvm.exec) (hb : c.code = cX5_append) (hml : c.maxLocals = 5) (hown : s.vm.findClass RX5 = some m.cls) (hts : ∀ w ∈ wsX5_append, w.before args s = true) (hA : ∀ q : Nat, s.heap.size ≤ q → A q) (hKn : qKn G A s s.heap) (hret : ∀ (d : qS) (H : Heap) (locs : List Loc) (ls : Array Slot) (pc : Nat), k d → va_P G.1 vwCl (wD G g d ++ R) H → va_D A (wD G g d ++ R) → va_S A s.heap H locs → decode cX5_append pc = .ok (.return_, 1) → W p l e rmX5_append s m args below meth c H locs 0 0 Qf (F0 m pc ls [])) : ∀ (n : Nat) (d : qS) (x1 : Int64) (x4 : Int32) (H : Heap) (locs : List Loc) (ls : Array Slot), wX5_append_b5 k n d x1 x4 → va_P G.1 vwCl (wD G g d ++ R) H → va_D A (wD G g d ++ R) → va_S A s.heap H locs → lv_has ls 5 [(0, .ref (g 0)), (1, .long x1), (4, .int x4)] → W p l e rmX5_append s m args below meth c H locs 0 0 Qf (F0 m 5 ls []) := by
  intro n
  induction n with
  | zero => intros; rename_i h _ _ _ _; exact h.elim
  | succ n ih =>
    intro d x1 x4 H locs ls h hP hD hS hl
    unfold wX5_append_b5 at h
    refine lv_iload hx hb dX5_append_5 (lv_at hl 2 rfl) ?_
    refine lv_if_lt (tgt := 61) hx hb dX5_append_7 (by decide) (fun c1 => ?_) (fun c1 => ?_)
    · have h := h.1 c1
      exact kX5_append_b61 hx hb hml hown hts hA hKn hret d _ _ _ h hP hD hS (lv_sub hl [] rfl)
    · have h := h.2 c1
      refine lv_aload_n hx hb dX5_append_10 rfl (lv_at hl 0 rfl) ?_
      refine va_get (D := G.1) (ci := 5) (v := .int (d 0 0)) (C := RX5) (T := TX5) (N := 6) hx hb hts iX5_append_X5 hown hKn.k hP 0 rfl rfl 1 (by decide) (hts _ lX5_append_f25) (fun _ h9 => h9) rfl dX5_append_11 ?_
      refine lv_iconst (v := (0 : Int32)) hx hb dX5_append_14 (by decide) ?_
      refine lv_bipush (v := (79 : Int32)) hx hb dX5_append_15 (by decide) ?_
      refine qc_ni (As := [.int (d 0 0), .int (0 : Int32), .int (79 : Int32)]) (rest := []) ⟨hx, hb, hml, hown, hts⟩ (mX9_within l G _ _ _ (d 0 0) (0 : Int32) (79 : Int32)) ⟨va_cnB 3 hts gX5_append_X9_within_n21 rfl rfl rfl (hKn.2.1 _ (List.mem_of_getElem? (i := 19) rfl)) (hts _ lX5_append_nX9) (by decide +kernel) ⟨Nat.le_of_ble_eq_true rfl, Nat.le_of_ble_eq_true rfl⟩, (hts _ lX5_append_sX9_within), trivial⟩ hP hD hS hA hKn h rfl hl.1 rfl (Nat.le_of_ble_eq_true rfl) dX5_append_17 ⟨Nat.zero_le _, Nat.zero_le _⟩ (fun r1 _ H locs h hP hD hS => ?_)
      have hP : va_P G.1 vwCl (wD G g d ++ R) H := hP
      have hD : va_D A (wD G g d ++ R) := hD
      refine lv_if_eq (tgt := 61) hx hb dX5_append_20 (by decide) (fun c1 => ?_) (fun c1 => ?_)
      · have h := h.1 c1
        exact kX5_append_b61 hx hb hml hown hts hA hKn hret d _ _ _ h hP hD hS (lv_sub hl [] rfl)
      · have h := h.2 c1
        refine lv_aload_n hx hb dX5_append_23 rfl (lv_at hl 0 rfl) ?_
        refine va_get (D := G.1) (ci := 5) (v := .ref (g 1)) (C := RX5) (T := TX5) (N := 6) hx hb hts iX5_append_X5 hown hKn.k hP 0 rfl rfl 0 (by decide) (hts _ lX5_append_f9) (fun _ h9 => h9) rfl dX5_append_24 ?_
        refine lv_aload_n hx hb dX5_append_27 rfl (lv_at hl 0 rfl) ?_
        refine va_get (D := G.1) (ci := 5) (v := .int (d 0 0)) (C := RX5) (T := TX5) (N := 6) hx hb hts iX5_append_X5 hown hKn.k hP 0 rfl rfl 1 (by decide) (hts _ lX5_append_f25) (fun _ h9 => h9) rfl dX5_append_28 ?_
        refine lv_lload_n hx hb dX5_append_31 rfl (lv_at hl 1 rfl) ?_
        refine lv_bipush (v := (8 : Int32)) hx hb dX5_append_32 (by decide) ?_
        refine lv_iload hx hb dX5_append_34 (lv_at hl 2 rfl) ?_
        refine lv_imul hx hb dX5_append_36 ?_
        refine lv_lushr hx hb dX5_append_37 rfl ?_
        refine lv_ldc2 (v := (255 : Int64)) hx hb hown (hts _ lX5_append_c19) dX5_append_38 ?_
        refine lv_land hx hb dX5_append_41 ?_
        refine lv_l2i hx hb dX5_append_42 rfl ?_
        refine lv_i2c hx hb dX5_append_43 rfl ?_
        refine lv_topi (fun y2 ey2 => ?_)
        have h := h y2 ey2
        obtain ⟨hin, h⟩ := h
        refine va_cast hx hb hKn.k hP hD hS 1 2 rfl rfl hin dX5_append_44 (fun H locs hP hD hS => ?_)
        obtain ⟨d3, ed3⟩ : ∃ z : qS, z = up2 d 1 (Int32.toNatClampNeg (d 0 0)) (vp_nar .char y2) := ⟨_, rfl⟩
        have hP : va_P G.1 vwCl (wD G g d3 ++ R) H := by rw [ed3]; exact hP
        have hD : va_D A (wD G g d3 ++ R) := by rw [ed3]; exact hD
        have h := h d3 ed3
        refine lv_aload_n hx hb dX5_append_45 rfl (lv_at hl 0 rfl) ?_
        refine lv_dup hx hb dX5_append_46 rfl ?_
        refine va_get (D := G.1) (ci := 5) (v := .int (d3 0 0)) (C := RX5) (T := TX5) (N := 6) hx hb hts iX5_append_X5 hown hKn.k hP 0 rfl rfl 1 (by decide) (hts _ lX5_append_f25) (fun _ h9 => h9) rfl dX5_append_47 ?_
        refine lv_iconst (v := (1 : Int32)) hx hb dX5_append_50 (by decide) ?_
        refine lv_iadd hx hb dX5_append_51 ?_
        refine lv_topi (fun y4 ey4 => ?_)
        have h := h y4 ey4
        refine va_put (D := G.1) (ci := 5) (v := .int y4) (ty := .int) (C := RX5) (T := TX5) (N := 6) hx hb hts iX5_append_X5 tyX5 tyX5_ok nmX5 hown hKn.k hP hD hS 0 rfl rfl 1 (by decide) (hts _ lX5_append_f25) (fun _ h9 => h9) rfl (by decide +kernel) rfl rfl (Nat.le_of_ble_eq_true rfl) dX5_append_52 (fun H locs hP hD hS => ?_)
        obtain ⟨d5, ed5⟩ : ∃ z : qS, z = up2 d3 0 0 y4 := ⟨_, rfl⟩
        have hP : va_P G.1 vwCl (wD G g d5 ++ R) H := by rw [ed5]; exact hP
        have hD : va_D A (wD G g d5 ++ R) := by rw [ed5]; exact hD
        have h := h d5 ed5
        obtain ⟨y6, ey6⟩ : ∃ z : Int32, z = x4 + (-1 : Int32) := ⟨_, rfl⟩
        have h := h y6 ey6
        refine lv_iinc (v := y6) (lv' := [(4, .int y6), (0, .ref (g 0)), (1, .long x1)]) hx hb dX5_append_55 hl (k := 2) rfl (by rw [ey6]; rfl) (by decide) rfl (fun ls hl => ?_)
        refine lv_goto (tgt := 5) hx hb dX5_append_58 (by decide) ?_
        exact ih d5 x1 y6 _ _ _ h hP hD hS (lv_sub hl [1, 2, 0] rfl)
set_option maxHeartbeats 4000000 in
set_option maxRecDepth 100000 in
theorem mX5_append (l : Launch) (G : qG) (k : qS → Prop) (R : va_W) (g : Nat → Nat) (d : qS) (sz : Nat) (p0 : Int64) (p1 : Int32) : Met l yX5_append wsX5_append rmX5_append (qPc G [.ref (g 0), .long p0, .int p1] (wD G g d ++ R) sz (wX5_append k d p0 p1)) (qQv G (wD G g d ++ R) sz (fun (u : qS) => k u) (fun (u : qS) => wD G g u ++ R)) 0 0 (va_A (wD G g d ++ R) sz) := by
  refine Met.ofW (cc := cX5_append) (maxL := 5) (ret := none) (by decide) rfl ?_
  intro p e s m args below meth c s₁ B hml hv
  obtain ⟨rfl, hsz, hP, hD0, hKn0, h⟩ := hv
  have hx := B.exec
  have hb := B.bytes
  have hr := B.returns
  have hts := atoms_spec (ws := wsX5_append) B.pre
  have hown : s.vm.findClass RX5 = some m.cls := findClass_of_methodNamed B.named
  have hlocks := B.notSynchronized
  subst hsz
  have hD := hD0.self (sz := s.heap.size)
  generalize hAe : va_A (wD G g d ++ R) s.heap.size = A at hD hKn0 ⊢
  have hA : ∀ q : Nat, s.heap.size ≤ q → A q := fun q h => by rw [← hAe]; exact Or.inr h
  have hKn : qKn G A s s.heap := hKn0
  have hS : va_S A s.heap s.heap [] := va_S.rf
  have hret : ∀ (d' : qS) (H : Heap) (locs : List Loc) (ls : Array Slot) (pc : Nat), k d' → va_P G.1 vwCl (wD G g d' ++ R) H → va_D A (wD G g d' ++ R) → va_S A s.heap H locs → decode cX5_append pc = .ok (.return_, 1) → W p l e rmX5_append s m #[.ref (g 0), .long p0, .int p1] below meth c H locs 0 0 (MQ below (qQv G (wD G g d ++ R) s.heap.size (fun (u : qS) => k u) (fun (u : qS) => wD G g u ++ R)) #[.ref (g 0), .long p0, .int p1] s 0 0 A) (F0 m pc ls []) := fun d' H locs ls pc hk hP hD hS hd => W.vret hx hb hr (fun t ht hW => q_rv (u := (d' : qS)) hAe hk hP hD hS ht) hS.2.2 hd
  have hl := lv_entry ([.ref (g 0), .long p0, .int p1]) (n := 5) (Nat.le_of_ble_eq_true rfl)
  rw [lg_entry_eq]
  generalize (lg_sl ([.ref (g 0), .long p0, .int p1]) ++ List.replicate (5 - (lg_sl ([.ref (g 0), .long p0, .int p1])).length) Slot.unset).toArray = ls at hl ⊢
  have hl : lv_has ls 5 [(0, .ref (g 0)), (1, .long p0), (3, .int p1)] := hl
  unfold wX5_append at h
  show W p l e rmX5_append s m #[.ref (g 0), .long p0, .int p1] below meth c s.heap [] 0 0 _ _
  refine lv_iload_n hx hb dX5_append_0 rfl (lv_at hl 2 rfl) ?_
  refine lv_iconst (v := (1 : Int32)) hx hb dX5_append_1 (by decide) ?_
  refine lv_isub hx hb dX5_append_2 ?_
  refine lv_topi (fun y7 ey7 => ?_)
  have h := h y7 ey7
  refine lv_istore (lv' := [(4, .int y7), (0, .ref (g 0)), (1, .long p0), (3, .int p1)]) hx hb dX5_append_3 hl (by decide) rfl (fun ls hl => ?_)
  obtain ⟨n8, h⟩ := h
  exact kX5_append_b5 hx hb hml hown hts hA hKn hret n8 d p0 y7 _ _ _ h hP hD hS (lv_sub hl [1, 2, 0] rfl)
abbrev rmX5_startReading : Room := { frames := 0, cells := 0, slots := 0, locals := 0 }
theorem lX5_startReading_f36 : Cond.fieldLink RX5 36 "QuarryBlends$Pad" "place" "I" ∈ wsX5_startReading := by decide +kernel
theorem iX5_startReading_X5 : ∀ w ∈ wsX50, w ∈ wsX5_startReading := by decide +kernel
set_option maxHeartbeats 4000000 in
set_option maxRecDepth 100000 in
theorem mX5_startReading (l : Launch) (G : qG) (k : qS → Prop) (R : va_W) (g : Nat → Nat) (d : qS) (sz : Nat) : Met l yX5_startReading wsX5_startReading rmX5_startReading (qPc G [.ref (g 0)] (wD G g d ++ R) sz (wX5_startReading k d)) (qQv G (wD G g d ++ R) sz (fun (u : qS) => k u) (fun (u : qS) => wD G g u ++ R)) 0 0 (va_A (wD G g d ++ R) sz) := by
  refine Met.ofW (cc := cX5_startReading) (maxL := 1) (ret := none) (by decide) rfl ?_
  intro p e s m args below meth c s₁ B hml hv
  obtain ⟨rfl, hsz, hP, hD0, hKn0, h⟩ := hv
  have hx := B.exec
  have hb := B.bytes
  have hr := B.returns
  have hts := atoms_spec (ws := wsX5_startReading) B.pre
  have hown : s.vm.findClass RX5 = some m.cls := findClass_of_methodNamed B.named
  have hlocks := B.notSynchronized
  subst hsz
  have hD := hD0.self (sz := s.heap.size)
  generalize hAe : va_A (wD G g d ++ R) s.heap.size = A at hD hKn0 ⊢
  have hA : ∀ q : Nat, s.heap.size ≤ q → A q := fun q h => by rw [← hAe]; exact Or.inr h
  have hKn : qKn G A s s.heap := hKn0
  have hS : va_S A s.heap s.heap [] := va_S.rf
  have hret : ∀ (d' : qS) (H : Heap) (locs : List Loc) (ls : Array Slot) (pc : Nat), k d' → va_P G.1 vwCl (wD G g d' ++ R) H → va_D A (wD G g d' ++ R) → va_S A s.heap H locs → decode cX5_startReading pc = .ok (.return_, 1) → W p l e rmX5_startReading s m #[.ref (g 0)] below meth c H locs 0 0 (MQ below (qQv G (wD G g d ++ R) s.heap.size (fun (u : qS) => k u) (fun (u : qS) => wD G g u ++ R)) #[.ref (g 0)] s 0 0 A) (F0 m pc ls []) := fun d' H locs ls pc hk hP hD hS hd => W.vret hx hb hr (fun t ht hW => q_rv (u := (d' : qS)) hAe hk hP hD hS ht) hS.2.2 hd
  have hl := lv_entry ([.ref (g 0)]) (n := 1) (Nat.le_of_ble_eq_true rfl)
  rw [lg_entry_eq]
  generalize (lg_sl ([.ref (g 0)]) ++ List.replicate (1 - (lg_sl ([.ref (g 0)])).length) Slot.unset).toArray = ls at hl ⊢
  have hl : lv_has ls 1 [(0, .ref (g 0))] := hl
  unfold wX5_startReading at h
  show W p l e rmX5_startReading s m #[.ref (g 0)] below meth c s.heap [] 0 0 _ _
  refine lv_aload_n hx hb dX5_startReading_0 rfl (lv_at hl 0 rfl) ?_
  refine lv_iconst (v := (0 : Int32)) hx hb dX5_startReading_1 (by decide) ?_
  refine va_put (D := G.1) (ci := 5) (v := .int (0 : Int32)) (ty := .int) (C := RX5) (T := TX5) (N := 6) hx hb hts iX5_startReading_X5 tyX5 tyX5_ok nmX5 hown hKn.k hP hD hS 0 rfl rfl 2 (by decide) (hts _ lX5_startReading_f36) (fun _ h9 => h9) rfl (by decide +kernel) rfl rfl (Nat.le_of_ble_eq_true rfl) dX5_startReading_2 (fun H locs hP hD hS => ?_)
  obtain ⟨d1, ed1⟩ : ∃ z : qS, z = up2 d 0 1 (0 : Int32) := ⟨_, rfl⟩
  have hP : va_P G.1 vwCl (wD G g d1 ++ R) H := by rw [ed1]; exact hP
  have hD : va_D A (wD G g d1 ++ R) := by rw [ed1]; exact hD
  have h := h d1 ed1
  exact hret _ _ _ _ _ h hP hD hS dX5_startReading_5
abbrev rmX5_sign : Room := { frames := 0, cells := 0, slots := 0, locals := 0 }
theorem lX5_sign_f25 : Cond.fieldLink RX5 25 "QuarryBlends$Pad" "length" "I" ∈ wsX5_sign := by decide +kernel
theorem lX5_sign_f36 : Cond.fieldLink RX5 36 "QuarryBlends$Pad" "place" "I" ∈ wsX5_sign := by decide +kernel
theorem lX5_sign_f9 : Cond.fieldLink RX5 9 "QuarryBlends$Pad" "characters" "[C" ∈ wsX5_sign := by decide +kernel
theorem iX5_sign_X5 : ∀ w ∈ wsX50, w ∈ wsX5_sign := by decide +kernel
set_option maxHeartbeats 4000000 in
set_option maxRecDepth 100000 in
theorem kX5_sign_b40 {p : Program} {l : Launch} {e : Env} {s : State} {m : MethodId} {args : Array Value} {below : List Frame} {meth : Method} {c : Code} {G : qG} {A : Nat → Prop} {Qf : State → Prop} {R : va_W} {g : Nat → Nat} {k : Int32 → qS → Prop} (hx : p.tables.exec = Jvm.exec) (hb : c.code = cX5_sign) (hml : c.maxLocals = 1) (hown : s.vm.findClass RX5 = some m.cls) (hts : ∀ w ∈ wsX5_sign, w.before args s = true) (hA : ∀ q : Nat, s.heap.size ≤ q → A q) (hKn : qKn G A s s.heap) (hret : ∀ (r : Int32) (d : qS) (H : Heap) (locs : List Loc) (ls : Array Slot) (pc : Nat), k r d → narrow .char (.int r) = .int r → va_P G.1 vwCl (wD G g d ++ R) H → va_D A (wD G g d ++ R) → va_S A s.heap H locs → decode cX5_sign pc = .ok (.ireturn, 1) → W p l e rmX5_sign s m args below meth c H locs 0 0 Qf (F0 m pc ls [.int r])) : ∀ (d : qS) (z0 : Int32) (H : Heap) (locs : List Loc) (ls : Array Slot), wX5_sign_b40 k d z0 → va_P G.1 vwCl (wD G g d ++ R) H → va_D A (wD G g d ++ R) → va_S A s.heap H locs → lv_has ls 1 [] → W p l e rmX5_sign s m args below meth c H locs 0 0 Qf (F0 m 40 ls [.int z0]) := by
  intro d z0 H locs ls h hP hD hS hl
  unfold wX5_sign_b40 at h
  obtain ⟨hn1, h⟩ := h
  exact hret _ _ _ _ _ _ h hn1 hP hD hS dX5_sign_40
set_option maxHeartbeats 4000000 in
set_option maxRecDepth 100000 in
theorem kX5_sign_b39 {p : Program} {l : Launch} {e : Env} {s : State} {m : MethodId} {args : Array Value} {below : List Frame} {meth : Method} {c : Code} {G : qG} {A : Nat → Prop} {Qf : State → Prop} {R : va_W} {g : Nat → Nat} {k : Int32 → qS → Prop} (hx : p.tables.exec = Jvm.exec) (hb : c.code = cX5_sign) (hml : c.maxLocals = 1) (hown : s.vm.findClass RX5 = some m.cls) (hts : ∀ w ∈ wsX5_sign, w.before args s = true) (hA : ∀ q : Nat, s.heap.size ≤ q → A q) (hKn : qKn G A s s.heap) (hret : ∀ (r : Int32) (d : qS) (H : Heap) (locs : List Loc) (ls : Array Slot) (pc : Nat), k r d → narrow .char (.int r) = .int r → va_P G.1 vwCl (wD G g d ++ R) H → va_D A (wD G g d ++ R) → va_S A s.heap H locs → decode cX5_sign pc = .ok (.ireturn, 1) → W p l e rmX5_sign s m args below meth c H locs 0 0 Qf (F0 m pc ls [.int r])) : ∀ (d : qS) (H : Heap) (locs : List Loc) (ls : Array Slot), wX5_sign_b39 k d → va_P G.1 vwCl (wD G g d ++ R) H → va_D A (wD G g d ++ R) → va_S A s.heap H locs → lv_has ls 1 [] → W p l e rmX5_sign s m args below meth c H locs 0 0 Qf (F0 m 39 ls []) := by
  intro d H locs ls h hP hD hS hl
  unfold wX5_sign_b39 at h
  refine lv_iconst (v := (0 : Int32)) hx hb dX5_sign_39 (by decide) ?_
  exact kX5_sign_b40 hx hb hml hown hts hA hKn hret d (0 : Int32) _ _ _ h hP hD hS (lv_sub hl [] rfl)
set_option maxHeartbeats 4000000 in
set_option maxRecDepth 100000 in
theorem mX5_sign (l : Launch) (G : qG) (k : Int32 → qS → Prop) (R : va_W) (g : Nat → Nat) (d : qS) (sz : Nat) : Met l yX5_sign wsX5_sign rmX5_sign (qPc G [.ref (g 0)] (wD G g d ++ R) sz (wX5_sign k d)) (qQi G (wD G g d ++ R) sz (fun (r : Int32) (u : qS) => k r u) (fun (u : qS) => wD G g u ++ R)) 0 0 (va_A (wD G g d ++ R) sz) := by
  refine Met.ofW (cc := cX5_sign) (maxL := 1) (ret := (some .char)) (by decide) rfl ?_
  intro p e s m args below meth c s₁ B hml hv
  obtain ⟨rfl, hsz, hP, hD0, hKn0, h⟩ := hv
  have hx := B.exec
  have hb := B.bytes
  have hr := B.returns
  have hts := atoms_spec (ws := wsX5_sign) B.pre
  have hown : s.vm.findClass RX5 = some m.cls := findClass_of_methodNamed B.named
  have hlocks := B.notSynchronized
  subst hsz
  have hD := hD0.self (sz := s.heap.size)
  generalize hAe : va_A (wD G g d ++ R) s.heap.size = A at hD hKn0 ⊢
  have hA : ∀ q : Nat, s.heap.size ≤ q → A q := fun q h => by rw [← hAe]; exact Or.inr h
  have hKn : qKn G A s s.heap := hKn0
  have hS : va_S A s.heap s.heap [] := va_S.rf
  have hret : ∀ (r : Int32) (d' : qS) (H : Heap) (locs : List Loc) (ls : Array Slot) (pc : Nat), k r d' → narrow .char (.int r) = .int r → va_P G.1 vwCl (wD G g d' ++ R) H → va_D A (wD G g d' ++ R) → va_S A s.heap H locs → decode cX5_sign pc = .ok (.ireturn, 1) → W p l e rmX5_sign s m #[.ref (g 0)] below meth c H locs 0 0 (MQ below (qQi G (wD G g d ++ R) s.heap.size (fun (r : Int32) (u : qS) => k r u) (fun (u : qS) => wD G g u ++ R)) #[.ref (g 0)] s 0 0 A) (F0 m pc ls [.int r]) := fun r d' H locs ls pc hk hn hP hD hS hd => W.zret hx hb hr hn (fun t ht hW => q_ri (u := (d' : qS)) hAe hk hP hD hS ht) hS.2.2 hd
  have hl := lv_entry ([.ref (g 0)]) (n := 1) (Nat.le_of_ble_eq_true rfl)
  rw [lg_entry_eq]
  generalize (lg_sl ([.ref (g 0)]) ++ List.replicate (1 - (lg_sl ([.ref (g 0)])).length) Slot.unset).toArray = ls at hl ⊢
  have hl : lv_has ls 1 [(0, .ref (g 0))] := hl
  unfold wX5_sign at h
  show W p l e rmX5_sign s m #[.ref (g 0)] below meth c s.heap [] 0 0 _ _
  refine lv_aload_n hx hb dX5_sign_0 rfl (lv_at hl 0 rfl) ?_
  refine va_get (D := G.1) (ci := 5) (v := .int (d 0 1)) (C := RX5) (T := TX5) (N := 6) hx hb hts iX5_sign_X5 hown hKn.k hP 0 rfl rfl 2 (by decide) (hts _ lX5_sign_f36) (fun _ h9 => h9) rfl dX5_sign_1 ?_
  refine lv_if_lt (tgt := 39) hx hb dX5_sign_4 (by decide) (fun c1 => ?_) (fun c1 => ?_)
  · have h := h.1 c1
    exact kX5_sign_b39 hx hb hml hown hts hA hKn hret d _ _ _ h hP hD hS (lv_sub hl [] rfl)
  · have h := h.2 c1
    refine lv_aload_n hx hb dX5_sign_7 rfl (lv_at hl 0 rfl) ?_
    refine va_get (D := G.1) (ci := 5) (v := .int (d 0 1)) (C := RX5) (T := TX5) (N := 6) hx hb hts iX5_sign_X5 hown hKn.k hP 0 rfl rfl 2 (by decide) (hts _ lX5_sign_f36) (fun _ h9 => h9) rfl dX5_sign_8 ?_
    refine lv_aload_n hx hb dX5_sign_11 rfl (lv_at hl 0 rfl) ?_
    refine va_get (D := G.1) (ci := 5) (v := .int (d 0 0)) (C := RX5) (T := TX5) (N := 6) hx hb hts iX5_sign_X5 hown hKn.k hP 0 rfl rfl 1 (by decide) (hts _ lX5_sign_f25) (fun _ h9 => h9) rfl dX5_sign_12 ?_
    refine lv_icmp_ge (tgt := 39) hx hb dX5_sign_15 (by decide) (fun c1 => ?_) (fun c1 => ?_)
    · have h := h.1 c1
      exact kX5_sign_b39 hx hb hml hown hts hA hKn hret d _ _ _ h hP hD hS (lv_sub hl [] rfl)
    · have h := h.2 c1
      refine lv_aload_n hx hb dX5_sign_18 rfl (lv_at hl 0 rfl) ?_
      refine va_get (D := G.1) (ci := 5) (v := .int (d 0 1)) (C := RX5) (T := TX5) (N := 6) hx hb hts iX5_sign_X5 hown hKn.k hP 0 rfl rfl 2 (by decide) (hts _ lX5_sign_f36) (fun _ h9 => h9) rfl dX5_sign_19 ?_
      refine lv_bipush (v := (80 : Int32)) hx hb dX5_sign_22 (by decide) ?_
      refine lv_icmp_ge (tgt := 39) hx hb dX5_sign_24 (by decide) (fun c1 => ?_) (fun c1 => ?_)
      · have h := h.1 c1
        exact kX5_sign_b39 hx hb hml hown hts hA hKn hret d _ _ _ h hP hD hS (lv_sub hl [] rfl)
      · have h := h.2 c1
        refine lv_aload_n hx hb dX5_sign_27 rfl (lv_at hl 0 rfl) ?_
        refine va_get (D := G.1) (ci := 5) (v := .ref (g 1)) (C := RX5) (T := TX5) (N := 6) hx hb hts iX5_sign_X5 hown hKn.k hP 0 rfl rfl 0 (by decide) (hts _ lX5_sign_f9) (fun _ h9 => h9) rfl dX5_sign_28 ?_
        refine lv_aload_n hx hb dX5_sign_31 rfl (lv_at hl 0 rfl) ?_
        refine va_get (D := G.1) (ci := 5) (v := .int (d 0 1)) (C := RX5) (T := TX5) (N := 6) hx hb hts iX5_sign_X5 hown hKn.k hP 0 rfl rfl 2 (by decide) (hts _ lX5_sign_f36) (fun _ h9 => h9) rfl dX5_sign_32 ?_
        obtain ⟨hin, h⟩ := h
        refine va_cald hx hb hKn.k hP 1 2 rfl rfl hin dX5_sign_35 ?_
        refine lv_goto (tgt := 40) hx hb dX5_sign_36 (by decide) ?_
        exact kX5_sign_b40 hx hb hml hown hts hA hKn hret d (d 1 (Int32.toNatClampNeg (d 0 1))) _ _ _ h hP hD hS (lv_sub hl [] rfl)
abbrev rmX5_keepNumber : Room := { frames := 0, cells := 0, slots := 0, locals := 0 }
theorem lX5_keepNumber_f15 : Cond.fieldLink RX5 15 "QuarryBlends$Pad" "numbers" "[I" ∈ wsX5_keepNumber := by decide +kernel
theorem lX5_keepNumber_f61 : Cond.fieldLink RX5 61 "QuarryBlends$Pad" "numbersRead" "I" ∈ wsX5_keepNumber := by decide +kernel
theorem iX5_keepNumber_X5 : ∀ w ∈ wsX50, w ∈ wsX5_keepNumber := by decide +kernel
set_option maxHeartbeats 4000000 in
set_option maxRecDepth 100000 in
theorem kX5_keepNumber_b36 {p : Program} {l : Launch} {e : Env} {s : State} {m : MethodId} {args : Array Value} {below : List Frame} {meth : Method} {c : Code} {G : qG} {A : Nat → Prop} {Qf : State → Prop} {R : va_W} {g : Nat → Nat} {k : qS → Prop} (hx : p.tables.exec = Jvm.exec) (hb : c.code = cX5_keepNumber) (hml : c.maxLocals = 2) (hown : s.vm.findClass RX5 = some m.cls) (hts : ∀ w ∈ wsX5_keepNumber, w.before args s = true) (hA : ∀ q : Nat, s.heap.size ≤ q → A q) (hKn : qKn G A s s.heap) (hret : ∀ (d : qS) (H : Heap) (locs : List Loc) (ls : Array Slot) (pc : Nat), k d → va_P G.1 vwCl (wD G g d ++ R) H → va_D A (wD G g d ++ R) → va_S A s.heap H locs → decode cX5_keepNumber pc = .ok (.return_, 1) → W p l e rmX5_keepNumber s m args below meth c H locs 0 0 Qf (F0 m pc ls [])) : ∀ (d : qS) (H : Heap) (locs : List Loc) (ls : Array Slot), wX5_keepNumber_b36 k d → va_P G.1 vwCl (wD G g d ++ R) H → va_D A (wD G g d ++ R) → va_S A s.heap H locs → lv_has ls 2 [] → W p l e rmX5_keepNumber s m args below meth c H locs 0 0 Qf (F0 m 36 ls []) := by
  intro d H locs ls h hP hD hS hl
  unfold wX5_keepNumber_b36 at h
  exact hret _ _ _ _ _ h hP hD hS dX5_keepNumber_36
set_option maxHeartbeats 4000000 in
set_option maxRecDepth 100000 in
theorem mX5_keepNumber (l : Launch) (G : qG) (k : qS → Prop) (R : va_W) (g : Nat → Nat) (d : qS) (sz : Nat) (p0 : Int32) : Met l yX5_keepNumber wsX5_keepNumber rmX5_keepNumber (qPc G [.ref (g 0), .int p0] (wD G g d ++ R) sz (wX5_keepNumber k d p0)) (qQv G (wD G g d ++ R) sz (fun (u : qS) => k u) (fun (u : qS) => wD G g u ++ R)) 0 0 (va_A (wD G g d ++ R) sz) := by
  refine Met.ofW (cc := cX5_keepNumber) (maxL := 2) (ret := none) (by decide) rfl ?_
  intro p e s m args below meth c s₁ B hml hv
  obtain ⟨rfl, hsz, hP, hD0, hKn0, h⟩ := hv
  have hx := B.exec
  have hb := B.bytes
  have hr := B.returns
  have hts := atoms_spec (ws := wsX5_keepNumber) B.pre
  have hown : s.vm.findClass RX5 = some m.cls := findClass_of_methodNamed B.named
  have hlocks := B.notSynchronized
  subst hsz
  have hD := hD0.self (sz := s.heap.size)
  generalize hAe : va_A (wD G g d ++ R) s.heap.size = A at hD hKn0 ⊢
  have hA : ∀ q : Nat, s.heap.size ≤ q → A q := fun q h => by rw [← hAe]; exact Or.inr h
  have hKn : qKn G A s s.heap := hKn0
  have hS : va_S A s.heap s.heap [] := va_S.rf
  have hret : ∀ (d' : qS) (H : Heap) (locs : List Loc) (ls : Array Slot) (pc : Nat), k d' → va_P G.1 vwCl (wD G g d' ++ R) H → va_D A (wD G g d' ++ R) → va_S A s.heap H locs → decode cX5_keepNumber pc = .ok (.return_, 1) → W p l e rmX5_keepNumber s m #[.ref (g 0), .int p0] below meth c H locs 0 0 (MQ below (qQv G (wD G g d ++ R) s.heap.size (fun (u : qS) => k u) (fun (u : qS) => wD G g u ++ R)) #[.ref (g 0), .int p0] s 0 0 A) (F0 m pc ls []) := fun d' H locs ls pc hk hP hD hS hd => W.vret hx hb hr (fun t ht hW => q_rv (u := (d' : qS)) hAe hk hP hD hS ht) hS.2.2 hd
  have hl := lv_entry ([.ref (g 0), .int p0]) (n := 2) (Nat.le_of_ble_eq_true rfl)
  rw [lg_entry_eq]
  generalize (lg_sl ([.ref (g 0), .int p0]) ++ List.replicate (2 - (lg_sl ([.ref (g 0), .int p0])).length) Slot.unset).toArray = ls at hl ⊢
  have hl : lv_has ls 2 [(0, .ref (g 0)), (1, .int p0)] := hl
  unfold wX5_keepNumber at h
  show W p l e rmX5_keepNumber s m #[.ref (g 0), .int p0] below meth c s.heap [] 0 0 _ _
  refine lv_aload_n hx hb dX5_keepNumber_0 rfl (lv_at hl 0 rfl) ?_
  refine va_get (D := G.1) (ci := 5) (v := .int (d 0 3)) (C := RX5) (T := TX5) (N := 6) hx hb hts iX5_keepNumber_X5 hown hKn.k hP 0 rfl rfl 5 (by decide) (hts _ lX5_keepNumber_f61) (fun _ h9 => h9) rfl dX5_keepNumber_1 ?_
  refine lv_if_lt (tgt := 36) hx hb dX5_keepNumber_4 (by decide) (fun c1 => ?_) (fun c1 => ?_)
  · have h := h.1 c1
    exact kX5_keepNumber_b36 hx hb hml hown hts hA hKn hret d _ _ _ h hP hD hS (lv_sub hl [] rfl)
  · have h := h.2 c1
    refine lv_aload_n hx hb dX5_keepNumber_7 rfl (lv_at hl 0 rfl) ?_
    refine va_get (D := G.1) (ci := 5) (v := .int (d 0 3)) (C := RX5) (T := TX5) (N := 6) hx hb hts iX5_keepNumber_X5 hown hKn.k hP 0 rfl rfl 5 (by decide) (hts _ lX5_keepNumber_f61) (fun _ h9 => h9) rfl dX5_keepNumber_8 ?_
    refine lv_bipush (v := (6 : Int32)) hx hb dX5_keepNumber_11 (by decide) ?_
    refine lv_icmp_ge (tgt := 36) hx hb dX5_keepNumber_13 (by decide) (fun c1 => ?_) (fun c1 => ?_)
    · have h := h.1 c1
      exact kX5_keepNumber_b36 hx hb hml hown hts hA hKn hret d _ _ _ h hP hD hS (lv_sub hl [] rfl)
    · have h := h.2 c1
      refine lv_aload_n hx hb dX5_keepNumber_16 rfl (lv_at hl 0 rfl) ?_
      refine va_get (D := G.1) (ci := 5) (v := .ref (g 2)) (C := RX5) (T := TX5) (N := 6) hx hb hts iX5_keepNumber_X5 hown hKn.k hP 0 rfl rfl 4 (by decide) (hts _ lX5_keepNumber_f15) (fun _ h9 => h9) rfl dX5_keepNumber_17 ?_
      refine lv_aload_n hx hb dX5_keepNumber_20 rfl (lv_at hl 0 rfl) ?_
      refine va_get (D := G.1) (ci := 5) (v := .int (d 0 3)) (C := RX5) (T := TX5) (N := 6) hx hb hts iX5_keepNumber_X5 hown hKn.k hP 0 rfl rfl 5 (by decide) (hts _ lX5_keepNumber_f61) (fun _ h9 => h9) rfl dX5_keepNumber_21 ?_
      refine lv_iload_n hx hb dX5_keepNumber_24 rfl (lv_at hl 1 rfl) ?_
      obtain ⟨hin, h⟩ := h
      refine va_iast hx hb hKn.k hP hD hS 2 0 rfl rfl hin dX5_keepNumber_25 (fun H locs hP hD hS => ?_)
      obtain ⟨d1, ed1⟩ : ∃ z : qS, z = up2 d 2 (Int32.toNatClampNeg (d 0 3)) p0 := ⟨_, rfl⟩
      have hP : va_P G.1 vwCl (wD G g d1 ++ R) H := by rw [ed1]; exact hP
      have hD : va_D A (wD G g d1 ++ R) := by rw [ed1]; exact hD
      have h := h d1 ed1
      refine lv_aload_n hx hb dX5_keepNumber_26 rfl (lv_at hl 0 rfl) ?_
      refine lv_dup hx hb dX5_keepNumber_27 rfl ?_
      refine va_get (D := G.1) (ci := 5) (v := .int (d1 0 3)) (C := RX5) (T := TX5) (N := 6) hx hb hts iX5_keepNumber_X5 hown hKn.k hP 0 rfl rfl 5 (by decide) (hts _ lX5_keepNumber_f61) (fun _ h9 => h9) rfl dX5_keepNumber_28 ?_
      refine lv_iconst (v := (1 : Int32)) hx hb dX5_keepNumber_31 (by decide) ?_
      refine lv_iadd hx hb dX5_keepNumber_32 ?_
      refine lv_topi (fun y2 ey2 => ?_)
      have h := h y2 ey2
      refine va_put (D := G.1) (ci := 5) (v := .int y2) (ty := .int) (C := RX5) (T := TX5) (N := 6) hx hb hts iX5_keepNumber_X5 tyX5 tyX5_ok nmX5 hown hKn.k hP hD hS 0 rfl rfl 5 (by decide) (hts _ lX5_keepNumber_f61) (fun _ h9 => h9) rfl (by decide +kernel) rfl rfl (Nat.le_of_ble_eq_true rfl) dX5_keepNumber_33 (fun H locs hP hD hS => ?_)
      obtain ⟨d3, ed3⟩ : ∃ z : qS, z = up2 d1 0 3 y2 := ⟨_, rfl⟩
      have hP : va_P G.1 vwCl (wD G g d3 ++ R) H := by rw [ed3]; exact hP
      have hD : va_D A (wD G g d3 ++ R) := by rw [ed3]; exact hD
      have h := h d3 ed3
      exact kX5_keepNumber_b36 hx hb hml hown hts hA hKn hret d3 _ _ _ h hP hD hS (lv_sub hl [] rfl)
abbrev rmX5_readNumber : Room := { frames := 1, cells := 0, slots := 0, locals := 22 }
theorem lX5_readNumber_f25 : Cond.fieldLink RX5 25 "QuarryBlends$Pad" "length" "I" ∈ wsX5_readNumber := by decide +kernel
theorem lX5_readNumber_f36 : Cond.fieldLink RX5 36 "QuarryBlends$Pad" "place" "I" ∈ wsX5_readNumber := by decide +kernel
theorem lX5_readNumber_nX9 : Cond.initialized RX9 ∈ wsX5_readNumber := by decide +kernel
theorem lX5_readNumber_sX9_within : Cond.static yX9_within ∈ wsX5_readNumber := by decide +kernel
theorem iX5_readNumber_X5 : ∀ w ∈ wsX50, w ∈ wsX5_readNumber := by decide +kernel
set_option maxHeartbeats 4000000 in
set_option maxRecDepth 100000 in
theorem kX5_readNumber_b96 {p : Program} {l : Launch} {e : Env} {s : State} {m : MethodId} {args : Array Value} {below : List Frame} {meth : Method} {c : Code} {G : qG} {A : Nat → Prop} {Qf : State → Prop} {R : va_W} {g : Nat → Nat} {k : Int32 → qS → Prop} (hx : p.tables.exec = Jvm.exec) (hb : c.code = cX5_readNumber) (hml : c.maxLocals = 2) (hown : s.vm.findClass RX5 = some m.cls) (hts : ∀ w ∈ wsX5_readNumber, w.before args s = true) (hA : ∀ q : Nat, s.heap.size ≤ q → A q) (hKn : qKn G A s s.heap) (hret : ∀ (r : Int32) (d : qS) (H : Heap) (locs : List Loc) (ls : Array Slot) (pc : Nat), k r d → narrow .boolean (.int r) = .int r → va_P G.1 vwCl (wD G g d ++ R) H → va_D A (wD G g d ++ R) → va_S A s.heap H locs → decode cX5_readNumber pc = .ok (.ireturn, 1) → W p l e rmX5_readNumber s m args below meth c H locs 0 0 Qf (F0 m pc ls [.int r])) : ∀ (d : qS) (x1 : Int32) (H : Heap) (locs : List Loc) (ls : Array Slot), wX5_readNumber_b96 k d x1 → va_P G.1 vwCl (wD G g d ++ R) H → va_D A (wD G g d ++ R) → va_S A s.heap H locs → lv_has ls 2 [(0, .ref (g 0)), (1, .int x1)] → W p l e rmX5_readNumber s m args below meth c H locs 0 0 Qf (F0 m 96 ls []) := by
  intro d x1 H locs ls h hP hD hS hl
  unfold wX5_readNumber_b96 at h
  refine lv_aload_n hx hb dX5_readNumber_96 rfl (lv_at hl 0 rfl) ?_
  refine lv_iload_n hx hb dX5_readNumber_97 rfl (lv_at hl 1 rfl) ?_
  refine qc_vv (As := [.int x1]) (rest := []) ⟨hx, hb, hml, hown, hts⟩ (mX5_keepNumber l G _ _ g d _ x1) (cwV 1 hts gX5_readNumber_X5_keepNumber rfl rfl rfl (by decide +kernel) ⟨Nat.le_of_ble_eq_true rfl, Nat.le_of_ble_eq_true rfl⟩) hP hD hS hA hKn 0 5 rfl rfl rfl h rfl hl.1 rfl (Nat.le_of_ble_eq_true rfl) dX5_readNumber_98 ⟨Nat.zero_le _, Nat.zero_le _⟩ (fun d2 H locs h hP hD hS => ?_)
  have hP : va_P G.1 vwCl (wD G g d2 ++ R) H := hP
  have hD : va_D A (wD G g d2 ++ R) := hD
  refine lv_iconst (v := (1 : Int32)) hx hb dX5_readNumber_101 (by decide) ?_
  exact hret _ _ _ _ _ _ h rfl hP hD hS dX5_readNumber_102
set_option maxHeartbeats 4000000 in
set_option maxRecDepth 100000 in
theorem kX5_readNumber_b34 {p : Program} {l : Launch} {e : Env} {s : State} {m : MethodId} {args : Array Value} {below : List Frame} {meth : Method} {c : Code} {G : qG} {A : Nat → Prop} {Qf : State → Prop} {R : va_W} {g : Nat → Nat} {k : Int32 → qS → Prop} (hx : p.tables.exec = Jvm.exec) (hb : c.code = cX5_readNumber) (hml : c.maxLocals = 2) (hown : s.vm.findClass RX5 = some m.cls) (hts : ∀ w ∈ wsX5_readNumber, w.before args s = true) (hA : ∀ q : Nat, s.heap.size ≤ q → A q) (hKn : qKn G A s s.heap) (hret : ∀ (r : Int32) (d : qS) (H : Heap) (locs : List Loc) (ls : Array Slot) (pc : Nat), k r d → narrow .boolean (.int r) = .int r → va_P G.1 vwCl (wD G g d ++ R) H → va_D A (wD G g d ++ R) → va_S A s.heap H locs → decode cX5_readNumber pc = .ok (.ireturn, 1) → W p l e rmX5_readNumber s m args below meth c H locs 0 0 Qf (F0 m pc ls [.int r])) : ∀ (n : Nat) (d : qS) (x1 : Int32) (H : Heap) (locs : List Loc) (ls : Array Slot), wX5_readNumber_b34 k n d x1 → va_P G.1 vwCl (wD G g d ++ R) H → va_D A (wD G g d ++ R) → va_S A s.heap H locs → lv_has ls 2 [(0, .ref (g 0)), (1, .int x1)] → W p l e rmX5_readNumber s m args below meth c H locs 0 0 Qf (F0 m 34 ls []) := by
  intro n
  induction n with
  | zero => intros; rename_i h _ _ _ _; exact h.elim
  | succ n ih =>
    intro d x1 H locs ls h hP hD hS hl
    unfold wX5_readNumber_b34 at h
    refine lv_aload_n hx hb dX5_readNumber_34 rfl (lv_at hl 0 rfl) ?_
    refine va_get (D := G.1) (ci := 5) (v := .int (d 0 1)) (C := RX5) (T := TX5) (N := 6) hx hb hts iX5_readNumber_X5 hown hKn.k hP 0 rfl rfl 2 (by decide) (hts _ lX5_readNumber_f36) (fun _ h9 => h9) rfl dX5_readNumber_35 ?_
    refine lv_aload_n hx hb dX5_readNumber_38 rfl (lv_at hl 0 rfl) ?_
    refine va_get (D := G.1) (ci := 5) (v := .int (d 0 0)) (C := RX5) (T := TX5) (N := 6) hx hb hts iX5_readNumber_X5 hown hKn.k hP 0 rfl rfl 1 (by decide) (hts _ lX5_readNumber_f25) (fun _ h9 => h9) rfl dX5_readNumber_39 ?_
    refine lv_icmp_ge (tgt := 96) hx hb dX5_readNumber_42 (by decide) (fun c1 => ?_) (fun c1 => ?_)
    · have h := h.1 c1
      exact kX5_readNumber_b96 hx hb hml hown hts hA hKn hret d x1 _ _ _ h hP hD hS (lv_sub hl [0, 1] rfl)
    · have h := h.2 c1
      refine lv_iload_n hx hb dX5_readNumber_45 rfl (lv_at hl 1 rfl) ?_
      refine lv_iconst (v := (1 : Int32)) hx hb dX5_readNumber_46 (by decide) ?_
      refine lv_sipush (v := (999 : Int32)) hx hb dX5_readNumber_47 (by decide) ?_
      refine qc_ni (As := [.int x1, .int (1 : Int32), .int (999 : Int32)]) (rest := []) ⟨hx, hb, hml, hown, hts⟩ (mX9_within l G _ _ _ x1 (1 : Int32) (999 : Int32)) ⟨va_cnB 3 hts gX5_readNumber_X9_within_n21 rfl rfl rfl (hKn.2.1 _ (List.mem_of_getElem? (i := 19) rfl)) (hts _ lX5_readNumber_nX9) (by decide +kernel) ⟨Nat.le_of_ble_eq_true rfl, Nat.le_of_ble_eq_true rfl⟩, (hts _ lX5_readNumber_sX9_within), trivial⟩ hP hD hS hA hKn h rfl hl.1 rfl (Nat.le_of_ble_eq_true rfl) dX5_readNumber_50 ⟨Nat.zero_le _, Nat.zero_le _⟩ (fun r3 _ H locs h hP hD hS => ?_)
      have hP : va_P G.1 vwCl (wD G g d ++ R) H := hP
      have hD : va_D A (wD G g d ++ R) := hD
      refine lv_if_eq (tgt := 96) hx hb dX5_readNumber_53 (by decide) (fun c1 => ?_) (fun c1 => ?_)
      · have h := h.1 c1
        exact kX5_readNumber_b96 hx hb hml hown hts hA hKn hret d x1 _ _ _ h hP hD hS (lv_sub hl [0, 1] rfl)
      · have h := h.2 c1
        refine lv_aload_n hx hb dX5_readNumber_56 rfl (lv_at hl 0 rfl) ?_
        refine qc_vi (As := []) (rest := []) ⟨hx, hb, hml, hown, hts⟩ (mX5_sign l G _ _ g d _ ) (cwV 0 hts gX5_readNumber_X5_sign rfl rfl rfl (by decide +kernel) ⟨Nat.le_of_ble_eq_true rfl, Nat.le_of_ble_eq_true rfl⟩) hP hD hS hA hKn 0 5 rfl rfl rfl h rfl hl.1 rfl (Nat.le_of_ble_eq_true rfl) dX5_readNumber_57 ⟨Nat.zero_le _, Nat.zero_le _⟩ (fun r4 d5 H locs h hP hD hS => ?_)
        have hP : va_P G.1 vwCl (wD G g d5 ++ R) H := hP
        have hD : va_D A (wD G g d5 ++ R) := hD
        refine lv_bipush (v := (48 : Int32)) hx hb dX5_readNumber_60 (by decide) ?_
        refine lv_bipush (v := (57 : Int32)) hx hb dX5_readNumber_62 (by decide) ?_
        refine qc_ni (As := [.int r4, .int (48 : Int32), .int (57 : Int32)]) (rest := []) ⟨hx, hb, hml, hown, hts⟩ (mX9_within l G _ _ _ r4 (48 : Int32) (57 : Int32)) ⟨va_cnB 3 hts gX5_readNumber_X9_within_n21 rfl rfl rfl (hKn.2.1 _ (List.mem_of_getElem? (i := 19) rfl)) (hts _ lX5_readNumber_nX9) (by decide +kernel) ⟨Nat.le_of_ble_eq_true rfl, Nat.le_of_ble_eq_true rfl⟩, (hts _ lX5_readNumber_sX9_within), trivial⟩ hP hD hS hA hKn h rfl hl.1 rfl (Nat.le_of_ble_eq_true rfl) dX5_readNumber_64 ⟨Nat.zero_le _, Nat.zero_le _⟩ (fun r6 _ H locs h hP hD hS => ?_)
        have hP : va_P G.1 vwCl (wD G g d5 ++ R) H := hP
        have hD : va_D A (wD G g d5 ++ R) := hD
        refine lv_if_eq (tgt := 96) hx hb dX5_readNumber_67 (by decide) (fun c1 => ?_) (fun c1 => ?_)
        · have h := h.1 c1
          exact kX5_readNumber_b96 hx hb hml hown hts hA hKn hret d5 x1 _ _ _ h hP hD hS (lv_sub hl [0, 1] rfl)
        · have h := h.2 c1
          refine lv_iload_n hx hb dX5_readNumber_70 rfl (lv_at hl 1 rfl) ?_
          refine lv_bipush (v := (10 : Int32)) hx hb dX5_readNumber_71 (by decide) ?_
          refine lv_imul hx hb dX5_readNumber_73 ?_
          refine lv_aload_n hx hb dX5_readNumber_74 rfl (lv_at hl 0 rfl) ?_
          refine qc_vi (As := []) (rest := [.int (x1 * (10 : Int32))]) ⟨hx, hb, hml, hown, hts⟩ (mX5_sign l G _ _ g d5 _ ) (cwV 0 hts gX5_readNumber_X5_sign rfl rfl rfl (by decide +kernel) ⟨Nat.le_of_ble_eq_true rfl, Nat.le_of_ble_eq_true rfl⟩) hP hD hS hA hKn 0 5 rfl rfl rfl h rfl hl.1 rfl (Nat.le_of_ble_eq_true rfl) dX5_readNumber_75 ⟨Nat.zero_le _, Nat.zero_le _⟩ (fun r7 d8 H locs h hP hD hS => ?_)
          have hP : va_P G.1 vwCl (wD G g d8 ++ R) H := hP
          have hD : va_D A (wD G g d8 ++ R) := hD
          refine lv_iadd hx hb dX5_readNumber_78 ?_
          refine lv_bipush (v := (48 : Int32)) hx hb dX5_readNumber_79 (by decide) ?_
          refine lv_isub hx hb dX5_readNumber_81 ?_
          refine lv_topi (fun y9 ey9 => ?_)
          have h := h y9 ey9
          refine lv_istore_n (lv' := [(1, .int y9), (0, .ref (g 0))]) hx hb dX5_readNumber_82 rfl hl (by decide) rfl (fun ls hl => ?_)
          refine lv_aload_n hx hb dX5_readNumber_83 rfl (lv_at hl 1 rfl) ?_
          refine lv_dup hx hb dX5_readNumber_84 rfl ?_
          refine va_get (D := G.1) (ci := 5) (v := .int (d8 0 1)) (C := RX5) (T := TX5) (N := 6) hx hb hts iX5_readNumber_X5 hown hKn.k hP 0 rfl rfl 2 (by decide) (hts _ lX5_readNumber_f36) (fun _ h9 => h9) rfl dX5_readNumber_85 ?_
          refine lv_iconst (v := (1 : Int32)) hx hb dX5_readNumber_88 (by decide) ?_
          refine lv_iadd hx hb dX5_readNumber_89 ?_
          refine lv_topi (fun y10 ey10 => ?_)
          have h := h y10 ey10
          refine va_put (D := G.1) (ci := 5) (v := .int y10) (ty := .int) (C := RX5) (T := TX5) (N := 6) hx hb hts iX5_readNumber_X5 tyX5 tyX5_ok nmX5 hown hKn.k hP hD hS 0 rfl rfl 2 (by decide) (hts _ lX5_readNumber_f36) (fun _ h9 => h9) rfl (by decide +kernel) rfl rfl (Nat.le_of_ble_eq_true rfl) dX5_readNumber_90 (fun H locs hP hD hS => ?_)
          obtain ⟨d11, ed11⟩ : ∃ z : qS, z = up2 d8 0 1 y10 := ⟨_, rfl⟩
          have hP : va_P G.1 vwCl (wD G g d11 ++ R) H := by rw [ed11]; exact hP
          have hD : va_D A (wD G g d11 ++ R) := by rw [ed11]; exact hD
          have h := h d11 ed11
          refine lv_goto (tgt := 34) hx hb dX5_readNumber_93 (by decide) ?_
          exact ih d11 y9 _ _ _ h hP hD hS (lv_sub hl [1, 0] rfl)
set_option maxHeartbeats 4000000 in
set_option maxRecDepth 100000 in
theorem mX5_readNumber (l : Launch) (G : qG) (k : Int32 → qS → Prop) (R : va_W) (g : Nat → Nat) (d : qS) (sz : Nat) : Met l yX5_readNumber wsX5_readNumber rmX5_readNumber (qPc G [.ref (g 0)] (wD G g d ++ R) sz (wX5_readNumber k d)) (qQi G (wD G g d ++ R) sz (fun (r : Int32) (u : qS) => k r u) (fun (u : qS) => wD G g u ++ R)) 0 0 (va_A (wD G g d ++ R) sz) := by
  refine Met.ofW (cc := cX5_readNumber) (maxL := 2) (ret := (some .boolean)) (by decide) rfl ?_
  intro p e s m args below meth c s₁ B hml hv
  obtain ⟨rfl, hsz, hP, hD0, hKn0, h⟩ := hv
  have hx := B.exec
  have hb := B.bytes
  have hr := B.returns
  have hts := atoms_spec (ws := wsX5_readNumber) B.pre
  have hown : s.vm.findClass RX5 = some m.cls := findClass_of_methodNamed B.named
  have hlocks := B.notSynchronized
  subst hsz
  have hD := hD0.self (sz := s.heap.size)
  generalize hAe : va_A (wD G g d ++ R) s.heap.size = A at hD hKn0 ⊢
  have hA : ∀ q : Nat, s.heap.size ≤ q → A q := fun q h => by rw [← hAe]; exact Or.inr h
  have hKn : qKn G A s s.heap := hKn0
  have hS : va_S A s.heap s.heap [] := va_S.rf
  have hret : ∀ (r : Int32) (d' : qS) (H : Heap) (locs : List Loc) (ls : Array Slot) (pc : Nat), k r d' → narrow .boolean (.int r) = .int r → va_P G.1 vwCl (wD G g d' ++ R) H → va_D A (wD G g d' ++ R) → va_S A s.heap H locs → decode cX5_readNumber pc = .ok (.ireturn, 1) → W p l e rmX5_readNumber s m #[.ref (g 0)] below meth c H locs 0 0 (MQ below (qQi G (wD G g d ++ R) s.heap.size (fun (r : Int32) (u : qS) => k r u) (fun (u : qS) => wD G g u ++ R)) #[.ref (g 0)] s 0 0 A) (F0 m pc ls [.int r]) := fun r d' H locs ls pc hk hn hP hD hS hd => W.zret hx hb hr hn (fun t ht hW => q_ri (u := (d' : qS)) hAe hk hP hD hS ht) hS.2.2 hd
  have hl := lv_entry ([.ref (g 0)]) (n := 2) (Nat.le_of_ble_eq_true rfl)
  rw [lg_entry_eq]
  generalize (lg_sl ([.ref (g 0)]) ++ List.replicate (2 - (lg_sl ([.ref (g 0)])).length) Slot.unset).toArray = ls at hl ⊢
  have hl : lv_has ls 2 [(0, .ref (g 0))] := hl
  unfold wX5_readNumber at h
  show W p l e rmX5_readNumber s m #[.ref (g 0)] below meth c s.heap [] 0 0 _ _
  refine lv_aload_n hx hb dX5_readNumber_0 rfl (lv_at hl 0 rfl) ?_
  refine qc_vi (As := []) (rest := []) ⟨hx, hb, hml, hown, hts⟩ (mX5_sign l G _ _ g d _ ) (cwV 0 hts gX5_readNumber_X5_sign rfl rfl rfl (by decide +kernel) ⟨Nat.le_of_ble_eq_true rfl, Nat.le_of_ble_eq_true rfl⟩) hP hD hS hA hKn 0 5 rfl rfl rfl h rfl hl.1 rfl (Nat.le_of_ble_eq_true rfl) dX5_readNumber_1 ⟨Nat.zero_le _, Nat.zero_le _⟩ (fun r12 d13 H locs h hP hD hS => ?_)
  have hP : va_P G.1 vwCl (wD G g d13 ++ R) H := hP
  have hD : va_D A (wD G g d13 ++ R) := hD
  refine lv_bipush (v := (48 : Int32)) hx hb dX5_readNumber_4 (by decide) ?_
  refine lv_bipush (v := (57 : Int32)) hx hb dX5_readNumber_6 (by decide) ?_
  refine qc_ni (As := [.int r12, .int (48 : Int32), .int (57 : Int32)]) (rest := []) ⟨hx, hb, hml, hown, hts⟩ (mX9_within l G _ _ _ r12 (48 : Int32) (57 : Int32)) ⟨va_cnB 3 hts gX5_readNumber_X9_within_n21 rfl rfl rfl (hKn.2.1 _ (List.mem_of_getElem? (i := 19) rfl)) (hts _ lX5_readNumber_nX9) (by decide +kernel) ⟨Nat.le_of_ble_eq_true rfl, Nat.le_of_ble_eq_true rfl⟩, (hts _ lX5_readNumber_sX9_within), trivial⟩ hP hD hS hA hKn h rfl hl.1 rfl (Nat.le_of_ble_eq_true rfl) dX5_readNumber_8 ⟨Nat.zero_le _, Nat.zero_le _⟩ (fun r14 _ H locs h hP hD hS => ?_)
  have hP : va_P G.1 vwCl (wD G g d13 ++ R) H := hP
  have hD : va_D A (wD G g d13 ++ R) := hD
  refine lv_if_ne (tgt := 16) hx hb dX5_readNumber_11 (by decide) (fun c1 => ?_) (fun c1 => ?_)
  · have h := h.1 c1
    refine lv_aload_n hx hb dX5_readNumber_16 rfl (lv_at hl 0 rfl) ?_
    refine qc_vi (As := []) (rest := []) ⟨hx, hb, hml, hown, hts⟩ (mX5_sign l G _ _ g d13 _ ) (cwV 0 hts gX5_readNumber_X5_sign rfl rfl rfl (by decide +kernel) ⟨Nat.le_of_ble_eq_true rfl, Nat.le_of_ble_eq_true rfl⟩) hP hD hS hA hKn 0 5 rfl rfl rfl h rfl hl.1 rfl (Nat.le_of_ble_eq_true rfl) dX5_readNumber_17 ⟨Nat.zero_le _, Nat.zero_le _⟩ (fun r15 d16 H locs h hP hD hS => ?_)
    have hP : va_P G.1 vwCl (wD G g d16 ++ R) H := hP
    have hD : va_D A (wD G g d16 ++ R) := hD
    refine lv_bipush (v := (48 : Int32)) hx hb dX5_readNumber_20 (by decide) ?_
    refine lv_isub hx hb dX5_readNumber_22 ?_
    refine lv_topi (fun y17 ey17 => ?_)
    have h := h y17 ey17
    refine lv_istore_n (lv' := [(1, .int y17), (0, .ref (g 0))]) hx hb dX5_readNumber_23 rfl hl (by decide) rfl (fun ls hl => ?_)
    refine lv_aload_n hx hb dX5_readNumber_24 rfl (lv_at hl 1 rfl) ?_
    refine lv_dup hx hb dX5_readNumber_25 rfl ?_
    refine va_get (D := G.1) (ci := 5) (v := .int (d16 0 1)) (C := RX5) (T := TX5) (N := 6) hx hb hts iX5_readNumber_X5 hown hKn.k hP 0 rfl rfl 2 (by decide) (hts _ lX5_readNumber_f36) (fun _ h9 => h9) rfl dX5_readNumber_26 ?_
    refine lv_iconst (v := (1 : Int32)) hx hb dX5_readNumber_29 (by decide) ?_
    refine lv_iadd hx hb dX5_readNumber_30 ?_
    refine lv_topi (fun y18 ey18 => ?_)
    have h := h y18 ey18
    refine va_put (D := G.1) (ci := 5) (v := .int y18) (ty := .int) (C := RX5) (T := TX5) (N := 6) hx hb hts iX5_readNumber_X5 tyX5 tyX5_ok nmX5 hown hKn.k hP hD hS 0 rfl rfl 2 (by decide) (hts _ lX5_readNumber_f36) (fun _ h9 => h9) rfl (by decide +kernel) rfl rfl (Nat.le_of_ble_eq_true rfl) dX5_readNumber_31 (fun H locs hP hD hS => ?_)
    obtain ⟨d19, ed19⟩ : ∃ z : qS, z = up2 d16 0 1 y18 := ⟨_, rfl⟩
    have hP : va_P G.1 vwCl (wD G g d19 ++ R) H := by rw [ed19]; exact hP
    have hD : va_D A (wD G g d19 ++ R) := by rw [ed19]; exact hD
    have h := h d19 ed19
    obtain ⟨n20, h⟩ := h
    exact kX5_readNumber_b34 hx hb hml hown hts hA hKn hret n20 d19 y17 _ _ _ h hP hD hS (lv_sub hl [1, 0] rfl)
  · have h := h.2 c1
    refine lv_iconst (v := (0 : Int32)) hx hb dX5_readNumber_14 (by decide) ?_
    exact hret _ _ _ _ _ _ h rfl hP hD hS dX5_readNumber_15
abbrev rmX5_readDigit : Room := { frames := 1, cells := 0, slots := 0, locals := 22 }
theorem lX5_readDigit_f36 : Cond.fieldLink RX5 36 "QuarryBlends$Pad" "place" "I" ∈ wsX5_readDigit := by decide +kernel
theorem lX5_readDigit_nX9 : Cond.initialized RX9 ∈ wsX5_readDigit := by decide +kernel
theorem lX5_readDigit_sX9_within : Cond.static yX9_within ∈ wsX5_readDigit := by decide +kernel
theorem iX5_readDigit_X5 : ∀ w ∈ wsX50, w ∈ wsX5_readDigit := by decide +kernel
set_option maxHeartbeats 4000000 in
set_option maxRecDepth 100000 in
theorem mX5_readDigit (l : Launch) (G : qG) (k : Int32 → qS → Prop) (R : va_W) (g : Nat → Nat) (d : qS) (sz : Nat) : Met l yX5_readDigit wsX5_readDigit rmX5_readDigit (qPc G [.ref (g 0)] (wD G g d ++ R) sz (wX5_readDigit k d)) (qQi G (wD G g d ++ R) sz (fun (r : Int32) (u : qS) => k r u) (fun (u : qS) => wD G g u ++ R)) 0 0 (va_A (wD G g d ++ R) sz) := by
  refine Met.ofW (cc := cX5_readDigit) (maxL := 1) (ret := (some .boolean)) (by decide) rfl ?_
  intro p e s m args below meth c s₁ B hml hv
  obtain ⟨rfl, hsz, hP, hD0, hKn0, h⟩ := hv
  have hx := B.exec
  have hb := B.bytes
  have hr := B.returns
  have hts := atoms_spec (ws := wsX5_readDigit) B.pre
  have hown : s.vm.findClass RX5 = some m.cls := findClass_of_methodNamed B.named
  have hlocks := B.notSynchronized
  subst hsz
  have hD := hD0.self (sz := s.heap.size)
  generalize hAe : va_A (wD G g d ++ R) s.heap.size = A at hD hKn0 ⊢
  have hA : ∀ q : Nat, s.heap.size ≤ q → A q := fun q h => by rw [← hAe]; exact Or.inr h
  have hKn : qKn G A s s.heap := hKn0
  have hS : va_S A s.heap s.heap [] := va_S.rf
  have hret : ∀ (r : Int32) (d' : qS) (H : Heap) (locs : List Loc) (ls : Array Slot) (pc : Nat), k r d' → narrow .boolean (.int r) = .int r → va_P G.1 vwCl (wD G g d' ++ R) H → va_D A (wD G g d' ++ R) → va_S A s.heap H locs → decode cX5_readDigit pc = .ok (.ireturn, 1) → W p l e rmX5_readDigit s m #[.ref (g 0)] below meth c H locs 0 0 (MQ below (qQi G (wD G g d ++ R) s.heap.size (fun (r : Int32) (u : qS) => k r u) (fun (u : qS) => wD G g u ++ R)) #[.ref (g 0)] s 0 0 A) (F0 m pc ls [.int r]) := fun r d' H locs ls pc hk hn hP hD hS hd => W.zret hx hb hr hn (fun t ht hW => q_ri (u := (d' : qS)) hAe hk hP hD hS ht) hS.2.2 hd
  have hl := lv_entry ([.ref (g 0)]) (n := 1) (Nat.le_of_ble_eq_true rfl)
  rw [lg_entry_eq]
  generalize (lg_sl ([.ref (g 0)]) ++ List.replicate (1 - (lg_sl ([.ref (g 0)])).length) Slot.unset).toArray = ls at hl ⊢
  have hl : lv_has ls 1 [(0, .ref (g 0))] := hl
  unfold wX5_readDigit at h
  show W p l e rmX5_readDigit s m #[.ref (g 0)] below meth c s.heap [] 0 0 _ _
  refine lv_aload_n hx hb dX5_readDigit_0 rfl (lv_at hl 0 rfl) ?_
  refine qc_vi (As := []) (rest := []) ⟨hx, hb, hml, hown, hts⟩ (mX5_sign l G _ _ g d _ ) (cwV 0 hts gX5_readDigit_X5_sign rfl rfl rfl (by decide +kernel) ⟨Nat.le_of_ble_eq_true rfl, Nat.le_of_ble_eq_true rfl⟩) hP hD hS hA hKn 0 5 rfl rfl rfl h rfl hl.1 rfl (Nat.le_of_ble_eq_true rfl) dX5_readDigit_1 ⟨Nat.zero_le _, Nat.zero_le _⟩ (fun r1 d2 H locs h hP hD hS => ?_)
  have hP : va_P G.1 vwCl (wD G g d2 ++ R) H := hP
  have hD : va_D A (wD G g d2 ++ R) := hD
  refine lv_bipush (v := (49 : Int32)) hx hb dX5_readDigit_4 (by decide) ?_
  refine lv_bipush (v := (57 : Int32)) hx hb dX5_readDigit_6 (by decide) ?_
  refine qc_ni (As := [.int r1, .int (49 : Int32), .int (57 : Int32)]) (rest := []) ⟨hx, hb, hml, hown, hts⟩ (mX9_within l G _ _ _ r1 (49 : Int32) (57 : Int32)) ⟨va_cnB 3 hts gX5_readDigit_X9_within_n21 rfl rfl rfl (hKn.2.1 _ (List.mem_of_getElem? (i := 19) rfl)) (hts _ lX5_readDigit_nX9) (by decide +kernel) ⟨Nat.le_of_ble_eq_true rfl, Nat.le_of_ble_eq_true rfl⟩, (hts _ lX5_readDigit_sX9_within), trivial⟩ hP hD hS hA hKn h rfl hl.1 rfl (Nat.le_of_ble_eq_true rfl) dX5_readDigit_8 ⟨Nat.zero_le _, Nat.zero_le _⟩ (fun r3 _ H locs h hP hD hS => ?_)
  have hP : va_P G.1 vwCl (wD G g d2 ++ R) H := hP
  have hD : va_D A (wD G g d2 ++ R) := hD
  refine lv_if_ne (tgt := 16) hx hb dX5_readDigit_11 (by decide) (fun c1 => ?_) (fun c1 => ?_)
  · have h := h.1 c1
    refine lv_aload_n hx hb dX5_readDigit_16 rfl (lv_at hl 0 rfl) ?_
    refine lv_aload_n hx hb dX5_readDigit_17 rfl (lv_at hl 0 rfl) ?_
    refine qc_vi (As := []) (rest := [.ref (g 0)]) ⟨hx, hb, hml, hown, hts⟩ (mX5_sign l G _ _ g d2 _ ) (cwV 0 hts gX5_readDigit_X5_sign rfl rfl rfl (by decide +kernel) ⟨Nat.le_of_ble_eq_true rfl, Nat.le_of_ble_eq_true rfl⟩) hP hD hS hA hKn 0 5 rfl rfl rfl h rfl hl.1 rfl (Nat.le_of_ble_eq_true rfl) dX5_readDigit_18 ⟨Nat.zero_le _, Nat.zero_le _⟩ (fun r4 d5 H locs h hP hD hS => ?_)
    have hP : va_P G.1 vwCl (wD G g d5 ++ R) H := hP
    have hD : va_D A (wD G g d5 ++ R) := hD
    refine lv_bipush (v := (48 : Int32)) hx hb dX5_readDigit_21 (by decide) ?_
    refine lv_isub hx hb dX5_readDigit_23 ?_
    refine qc_vv (As := [.int (r4 - (48 : Int32))]) (rest := []) ⟨hx, hb, hml, hown, hts⟩ (mX5_keepNumber l G _ _ g d5 _ (r4 - (48 : Int32))) (cwV 1 hts gX5_readDigit_X5_keepNumber rfl rfl rfl (by decide +kernel) ⟨Nat.le_of_ble_eq_true rfl, Nat.le_of_ble_eq_true rfl⟩) hP hD hS hA hKn 0 5 rfl rfl rfl h rfl hl.1 rfl (Nat.le_of_ble_eq_true rfl) dX5_readDigit_24 ⟨Nat.zero_le _, Nat.zero_le _⟩ (fun d7 H locs h hP hD hS => ?_)
    have hP : va_P G.1 vwCl (wD G g d7 ++ R) H := hP
    have hD : va_D A (wD G g d7 ++ R) := hD
    refine lv_aload_n hx hb dX5_readDigit_27 rfl (lv_at hl 0 rfl) ?_
    refine lv_dup hx hb dX5_readDigit_28 rfl ?_
    refine va_get (D := G.1) (ci := 5) (v := .int (d7 0 1)) (C := RX5) (T := TX5) (N := 6) hx hb hts iX5_readDigit_X5 hown hKn.k hP 0 rfl rfl 2 (by decide) (hts _ lX5_readDigit_f36) (fun _ h9 => h9) rfl dX5_readDigit_29 ?_
    refine lv_iconst (v := (1 : Int32)) hx hb dX5_readDigit_32 (by decide) ?_
    refine lv_iadd hx hb dX5_readDigit_33 ?_
    refine lv_topi (fun y8 ey8 => ?_)
    have h := h y8 ey8
    refine va_put (D := G.1) (ci := 5) (v := .int y8) (ty := .int) (C := RX5) (T := TX5) (N := 6) hx hb hts iX5_readDigit_X5 tyX5 tyX5_ok nmX5 hown hKn.k hP hD hS 0 rfl rfl 2 (by decide) (hts _ lX5_readDigit_f36) (fun _ h9 => h9) rfl (by decide +kernel) rfl rfl (Nat.le_of_ble_eq_true rfl) dX5_readDigit_34 (fun H locs hP hD hS => ?_)
    obtain ⟨d9, ed9⟩ : ∃ z : qS, z = up2 d7 0 1 y8 := ⟨_, rfl⟩
    have hP : va_P G.1 vwCl (wD G g d9 ++ R) H := by rw [ed9]; exact hP
    have hD : va_D A (wD G g d9 ++ R) := by rw [ed9]; exact hD
    have h := h d9 ed9
    refine lv_iconst (v := (1 : Int32)) hx hb dX5_readDigit_37 (by decide) ?_
    exact hret _ _ _ _ _ _ h rfl hP hD hS dX5_readDigit_38
  · have h := h.2 c1
    refine lv_iconst (v := (0 : Int32)) hx hb dX5_readDigit_14 (by decide) ?_
    exact hret _ _ _ _ _ _ h rfl hP hD hS dX5_readDigit_15
