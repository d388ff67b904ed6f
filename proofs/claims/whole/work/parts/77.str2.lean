abbrev rmX5_shapeOf : Room := { frames := 0, cells := 0, slots := 0, locals := 0 }
set_option maxHeartbeats 4000000 in
set_option maxRecDepth 100000 in
theorem kX5_shapeOf_b48 {p : Program} {l : Launch} {e : Env} {s : State} {m : MethodId} {args : Array Value} {below : List Frame} {meth : Method} {c : Code} {G : qG} {A : Nat → Prop} {Qf : State → Prop} {R : va_W}  {k : Nat → Prop} (hx : p.tables.exec = Jvm.exec) (hb : c.code = cX5_shapeOf) (hml : c.maxLocals = 1) (hown : s.vm.findClass RX5 = some m.cls) (hts : ∀ w ∈ wsX5_shapeOf, w.before args s = true) (hA : ∀ q : Nat, s.heap.size ≤ q → A q) (hKn : qKn G A s s.heap) (hret : ∀ (r : Nat)  (H : Heap) (locs : List Loc) (ls : Array Slot) (pc : Nat), k r  → va_P G.1 vwCl (R) H → va_D A (R) → va_S A s.heap H locs → decode cX5_shapeOf pc = .ok (.areturn, 1) → W p l e rmX5_shapeOf s m args below meth c H locs 0 0 Qf (F0 m pc ls [.ref (G.2.2.2.1 r)])) : ∀  (H : Heap) (locs : List Loc) (ls : Array Slot), wX5_shapeOf_b48 k  → va_P G.1 vwCl (R) H → va_D A (R) → va_S A s.heap H locs → lv_has ls 1 [] → W p l e rmX5_shapeOf s m args below meth c H locs 0 0 Qf (F0 m 48 ls []) := by
  intro  H locs ls h hP hD hS hl
  unfold wX5_shapeOf_b48 at h
  refine va_ldcS hx hb hown (hKn.2.2.2.2.1 _ (List.mem_of_getElem? (i := 5) rfl)) dX5_shapeOf_48 ?_
  exact hret _ _ _ _ _ h hP hD hS dX5_shapeOf_50
set_option maxHeartbeats 4000000 in
set_option maxRecDepth 100000 in
theorem mX5_shapeOf (l : Launch) (G : qG) (k : Nat → Prop) (R : va_W)  (sz : Nat) (p0 : Int32) : Met l yX5_shapeOf wsX5_shapeOf rmX5_shapeOf (qPc G [.int p0] (R) sz (wX5_shapeOf k  p0)) (qQr G (R) sz (fun (a : Nat) (u : Unit) => ∃ i, a = G.2.2.2.1 i ∧ k i ) (fun (u : Unit) => R)) 0 0 (va_A (R) sz) := by
  refine Met.ofW (cc := cX5_shapeOf) (maxL := 1) (ret := (some (.object "java/lang/String"))) (by decide) rfl ?_
  intro p e s m args below meth c s₁ B hml hv
  obtain ⟨rfl, hsz, hP, hD0, hKn0, h⟩ := hv
  have hx := B.exec
  have hb := B.bytes
  have hr := B.returns
  have hts := atoms_spec (ws := wsX5_shapeOf) B.pre
  have hown : s.vm.findClass RX5 = some m.cls := findClass_of_methodNamed B.named
  have hlocks := B.notSynchronized
  subst hsz
  have hD := hD0.self (sz := s.heap.size)
  generalize hAe : va_A (R) s.heap.size = A at hD hKn0 ⊢
  have hA : ∀ q : Nat, s.heap.size ≤ q → A q := fun q h => by rw [← hAe]; exact Or.inr h
  have hKn : qKn G A s s.heap := hKn0
  have hS : va_S A s.heap s.heap [] := va_S.rf
  have hret : ∀ (r : Nat)  (H : Heap) (locs : List Loc) (ls : Array Slot) (pc : Nat), k r  → va_P G.1 vwCl (R) H → va_D A (R) → va_S A s.heap H locs → decode cX5_shapeOf pc = .ok (.areturn, 1) → W p l e rmX5_shapeOf s m #[.int p0] below meth c H locs 0 0 (MQ below (qQr G (R) s.heap.size (fun (a : Nat) (u : Unit) => ∃ i, a = G.2.2.2.1 i ∧ k i ) (fun (u : Unit) => R)) #[.int p0] s 0 0 A) (F0 m pc ls [.ref (G.2.2.2.1 r)]) := fun r  H locs ls pc hk hP hD hS hd => W.aret hx hb hr (Or.inl ⟨_, rfl⟩) (Or.inr ⟨_, rfl⟩) (fun t ht hW => q_rr (u := (() : Unit)) hAe ⟨_, rfl, hk⟩ hP hD hS ht) hS.2.2 hd
  have hl := lv_entry ([.int p0]) (n := 1) (Nat.le_of_ble_eq_true rfl)
  rw [lg_entry_eq]
  generalize (lg_sl ([.int p0]) ++ List.replicate (1 - (lg_sl ([.int p0])).length) Slot.unset).toArray = ls at hl ⊢
  have hl : lv_has ls 1 [(0, .int p0)] := hl
  unfold wX5_shapeOf at h
  show W p l e rmX5_shapeOf s m #[.int p0] below meth c s.heap [] 0 0 _ _
  refine lv_iload_n hx hb dX5_shapeOf_0 rfl (lv_at hl 0 rfl) ?_
  by_cases c0 : p0 = (0 : Int32)
  · refine lv_tableIn (tgt := 36) hx hb dX5_shapeOf_1 (by rw [c0]; decide) (by rw [c0]; decide) (by rw [c0]; rfl) (by decide) ?_
    have h := (h.1) c0
    refine va_ldcS hx hb hown (hKn.2.2.2.2.1 _ (List.mem_of_getElem? (i := 1) rfl)) dX5_shapeOf_36 ?_
    exact hret _ _ _ _ _ h hP hD hS dX5_shapeOf_38
  · skip
    by_cases c1 : p0 = (1 : Int32)
    · refine lv_tableIn (tgt := 39) hx hb dX5_shapeOf_1 (by rw [c1]; decide) (by rw [c1]; decide) (by rw [c1]; rfl) (by decide) ?_
      have h := (h.2.1) c1
      refine va_ldcS hx hb hown (hKn.2.2.2.2.1 _ (List.mem_of_getElem? (i := 2) rfl)) dX5_shapeOf_39 ?_
      exact hret _ _ _ _ _ h hP hD hS dX5_shapeOf_41
    · skip
      by_cases c2 : p0 = (2 : Int32)
      · refine lv_tableIn (tgt := 42) hx hb dX5_shapeOf_1 (by rw [c2]; decide) (by rw [c2]; decide) (by rw [c2]; rfl) (by decide) ?_
        have h := (h.2.2.1) c2
        refine va_ldcS hx hb hown (hKn.2.2.2.2.1 _ (List.mem_of_getElem? (i := 3) rfl)) dX5_shapeOf_42 ?_
        exact hret _ _ _ _ _ h hP hD hS dX5_shapeOf_44
      · skip
        by_cases c3 : p0 = (3 : Int32)
        · refine lv_tableIn (tgt := 48) hx hb dX5_shapeOf_1 (by rw [c3]; decide) (by rw [c3]; decide) (by rw [c3]; rfl) (by decide) ?_
          have h := (h.2.2.2.1) c3
          exact kX5_shapeOf_b48 hx hb hml hown hts hA hKn hret  _ _ _ h hP hD hS (lv_sub hl [] rfl)
        · skip
          by_cases c4 : p0 = (4 : Int32)
          · refine lv_tableIn (tgt := 45) hx hb dX5_shapeOf_1 (by rw [c4]; decide) (by rw [c4]; decide) (by rw [c4]; rfl) (by decide) ?_
            have h := (h.2.2.2.2.1) c4
            refine va_ldcS hx hb hown (hKn.2.2.2.2.1 _ (List.mem_of_getElem? (i := 4) rfl)) dX5_shapeOf_45 ?_
            exact hret _ _ _ _ _ h hP hD hS dX5_shapeOf_47
          · skip
            refine lv_tableOut (tgt := 48) hx hb dX5_shapeOf_1 (by have gc0 : ¬ (p0).toInt = 0 := q_ti _ (0) c0; have gc1 : ¬ (p0).toInt = 1 := q_ti _ (1) c1; have gc2 : ¬ (p0).toInt = 2 := q_ti _ (2) c2; have gc3 : ¬ (p0).toInt = 3 := q_ti _ (3) c3; have gc4 : ¬ (p0).toInt = 4 := q_ti _ (4) c4; omega) (by decide) ?_
            have h := h.2.2.2.2.2 c0 c1 c2 c3 c4
            exact kX5_shapeOf_b48 hx hb hml hown hts hA hKn hret  _ _ _ h hP hD hS (lv_sub hl [] rfl)
abbrev rmX5_readOrder : Room := { frames := 4, cells := 0, slots := 0, locals := 91 }
theorem lX5_readOrder_f36 : Cond.fieldLink RX5 36 "QuarryBlends$Pad" "place" "I" ∈ wsX5_readOrder := by decide +kernel
theorem lX5_readOrder_f58 : Cond.fieldLink RX5 58 "QuarryBlends$Pad" "order" "I" ∈ wsX5_readOrder := by decide +kernel
theorem lX5_readOrder_f61 : Cond.fieldLink RX5 61 "QuarryBlends$Pad" "numbersRead" "I" ∈ wsX5_readOrder := by decide +kernel
theorem iX5_readOrder_X5 : ∀ w ∈ wsX50, w ∈ wsX5_readOrder := by decide +kernel
set_option maxHeartbeats 4000000 in
set_option maxRecDepth 100000 in
theorem kX5_readOrder_b77 {p : Program} {l : Launch} {e : Env} {s : State} {m : MethodId} {args : Array Value} {below : List Frame} {meth : Method} {c : Code} {G : qG} {A : Nat → Prop} {Qf : State → Prop} {R : va_W} {g : Nat → Nat} {k : Int32 → qS → Prop} (hx : p.tables.exec = Jvm.exec) (hb : c.code = cX5_readOrder) (hml : c.maxLocals = 4) (hown : s.vm.findClass RX5 = some m.cls) (hts : ∀ w ∈ wsX5_readOrder, w.before args s = true) (hA : ∀ q : Nat, s.heap.size ≤ q → A q) (hKn : qKn G A s s.heap) (hret : ∀ (r : Int32) (d : qS) (H : Heap) (locs : List Loc) (ls : Array Slot) (pc : Nat), k r d → narrow .boolean (.int r) = .int r → va_P G.1 vwCl (wD G g d ++ R) H → va_D A (wD G g d ++ R) → va_S A s.heap H locs → decode cX5_readOrder pc = .ok (.ireturn, 1) → W p l e rmX5_readOrder s m args below meth c H locs 0 0 Qf (F0 m pc ls [.int r])) : ∀ (d : qS) (x2 : Int32) (H : Heap) (locs : List Loc) (ls : Array Slot), wX5_readOrder_b77 k d x2 → va_P G.1 vwCl (wD G g d ++ R) H → va_D A (wD G g d ++ R) → va_S A s.heap H locs → lv_has ls 4 [(2, .int x2)] → W p l e rmX5_readOrder s m args below meth c H locs 0 0 Qf (F0 m 77 ls []) := by
  intro d x2 H locs ls h hP hD hS hl
  unfold wX5_readOrder_b77 at h
  refine lv_iload_n hx hb dX5_readOrder_77 rfl (lv_at hl 0 rfl) ?_
  obtain ⟨hn1, h⟩ := h
  exact hret _ _ _ _ _ _ h hn1 hP hD hS dX5_readOrder_78
set_option maxHeartbeats 4000000 in
set_option maxRecDepth 100000 in
theorem kX5_readOrder_b49 {p : Program} {l : Launch} {e : Env} {s : State} {m : MethodId} {args : Array Value} {below : List Frame} {meth : Method} {c : Code} {G : qG} {A : Nat → Prop} {Qf : State → Prop} {R : va_W} {g : Nat → Nat} {k : Int32 → qS → Prop} (hx : p.tables.exec = Jvm.exec) (hb : c.code = cX5_readOrder) (hml : c.maxLocals = 4) (hown : s.vm.findClass RX5 = some m.cls) (hts : ∀ w ∈ wsX5_readOrder, w.before args s = true) (hA : ∀ q : Nat, s.heap.size ≤ q → A q) (hKn : qKn G A s s.heap) (hret : ∀ (r : Int32) (d : qS) (H : Heap) (locs : List Loc) (ls : Array Slot) (pc : Nat), k r d → narrow .boolean (.int r) = .int r → va_P G.1 vwCl (wD G g d ++ R) H → va_D A (wD G g d ++ R) → va_S A s.heap H locs → decode cX5_readOrder pc = .ok (.ireturn, 1) → W p l e rmX5_readOrder s m args below meth c H locs 0 0 Qf (F0 m pc ls [.int r])) : ∀ (n : Nat) (d : qS) (x1 : Nat) (x2 : Int32) (x3 : Int32) (H : Heap) (locs : List Loc) (ls : Array Slot), wX5_readOrder_b49 k n d x1 x2 x3 → va_P G.1 vwCl (wD G g d ++ R) H → va_D A (wD G g d ++ R) → va_S A s.heap H locs → lv_has ls 4 [(0, .ref (g 0)), (1, .ref (G.2.2.2.1 (x1))), (2, .int x2), (3, .int x3)] → W p l e rmX5_readOrder s m args below meth c H locs 0 0 Qf (F0 m 49 ls []) := by
  intro n
  induction n with
  | zero => intros; rename_i h _ _ _ _; exact h.elim
  | succ n ih =>
    intro d x1 x2 x3 H locs ls h hP hD hS hl
    unfold wX5_readOrder_b49 at h
    refine lv_iload_n hx hb dX5_readOrder_49 rfl (lv_at hl 3 rfl) ?_
    refine lv_aload_n hx hb dX5_readOrder_50 rfl (lv_at hl 1 rfl) ?_
    obtain ⟨hi, h⟩ := h
    refine qc_ki (As := []) (rest := [.int x3]) ⟨hx, hb, hml, hown, hts⟩ (mJ0_length_8abf5 l G _ _ _ (x1)) (cwV 0 hts gX5_readOrder_J0_length_8abf5 rfl rfl rfl (by decide +kernel) ⟨Nat.le_of_ble_eq_true rfl, Nat.le_of_ble_eq_true rfl⟩) hP hD hS hA hKn hi h rfl hl.1 rfl (Nat.le_of_ble_eq_true rfl) dX5_readOrder_51 ⟨Nat.zero_le _, Nat.zero_le _⟩ (fun r1 _ H locs h hP hD hS => ?_)
    have hP : va_P G.1 vwCl (wD G g d ++ R) _ := hP
    have hD : va_D A (wD G g d ++ R) := hD
    refine lv_icmp_ge (tgt := 77) hx hb dX5_readOrder_54 (by decide) (fun c1 => ?_) (fun c1 => ?_)
    · have h := h.1 c1
      exact kX5_readOrder_b77 hx hb hml hown hts hA hKn hret d x2 _ _ _ h hP hD hS (lv_sub hl [2] rfl)
    · have h := h.2 c1
      refine lv_iload_n hx hb dX5_readOrder_57 rfl (lv_at hl 2 rfl) ?_
      refine lv_if_eq (tgt := 77) hx hb dX5_readOrder_58 (by decide) (fun c1 => ?_) (fun c1 => ?_)
      · have h := h.1 c1
        exact kX5_readOrder_b77 hx hb hml hown hts hA hKn hret d x2 _ _ _ h hP hD hS (lv_sub hl [2] rfl)
      · have h := h.2 c1
        refine lv_aload_n hx hb dX5_readOrder_61 rfl (lv_at hl 0 rfl) ?_
        refine lv_aload_n hx hb dX5_readOrder_62 rfl (lv_at hl 1 rfl) ?_
        refine lv_iload_n hx hb dX5_readOrder_63 rfl (lv_at hl 3 rfl) ?_
        obtain ⟨hi, h⟩ := h
        refine qc_ki (As := [.int x3]) (rest := [.ref (g 0)]) ⟨hx, hb, hml, hown, hts⟩ (mJ0_charAt_5068e l G _ _ _ (x1) (x3)) (cwV 1 hts gX5_readOrder_J0_charAt_5068e rfl rfl rfl (by decide +kernel) ⟨Nat.le_of_ble_eq_true rfl, Nat.le_of_ble_eq_true rfl⟩) hP hD hS hA hKn hi h rfl hl.1 rfl (Nat.le_of_ble_eq_true rfl) dX5_readOrder_64 ⟨Nat.zero_le _, Nat.zero_le _⟩ (fun r2 _ H locs h hP hD hS => ?_)
        have hP : va_P G.1 vwCl (wD G g d ++ R) _ := hP
        have hD : va_D A (wD G g d ++ R) := hD
        refine qc_vi (As := [.int r2]) (rest := []) ⟨hx, hb, hml, hown, hts⟩ (mX5_readPart l G _ _ g d _ r2) (cwV 1 hts gX5_readOrder_X5_readPart rfl rfl rfl (by decide +kernel) ⟨Nat.le_of_ble_eq_true rfl, Nat.le_of_ble_eq_true rfl⟩) hP hD hS hA hKn 0 5 rfl rfl rfl h rfl hl.1 rfl (Nat.le_of_ble_eq_true rfl) dX5_readOrder_67 ⟨Nat.zero_le _, Nat.zero_le _⟩ (fun r3 d4 H locs h hP hD hS => ?_)
        have hP : va_P G.1 vwCl (wD G g d4 ++ R) _ := hP
        have hD : va_D A (wD G g d4 ++ R) := hD
        refine lv_istore_n (lv' := [(2, .int r3), (0, .ref (g 0)), (1, .ref (G.2.2.2.1 (x1))), (3, .int x3)]) hx hb dX5_readOrder_70 rfl hl (by decide) rfl (fun ls hl => ?_)
        obtain ⟨y5, ey5⟩ : ∃ z : Int32, z = x3 + (1 : Int32) := ⟨_, rfl⟩
        have h := h y5 ey5
        refine lv_iinc (v := y5) (lv' := [(3, .int y5), (2, .int r3), (0, .ref (g 0)), (1, .ref (G.2.2.2.1 (x1)))]) hx hb dX5_readOrder_71 hl (k := 3) rfl (by rw [ey5]; rfl) (by decide) rfl (fun ls hl => ?_)
        refine lv_goto (tgt := 49) hx hb dX5_readOrder_74 (by decide) ?_
        exact ih d4 x1 r3 y5 _ _ _ h hP hD hS (lv_sub hl [2, 3, 1, 0] rfl)
set_option maxHeartbeats 4000000 in
set_option maxRecDepth 100000 in
theorem mX5_readOrder (l : Launch) (G : qG) (k : Int32 → qS → Prop) (R : va_W) (g : Nat → Nat) (d : qS) (sz : Nat) : Met l yX5_readOrder wsX5_readOrder rmX5_readOrder (qPc G [.ref (g 0)] (wD G g d ++ R) sz (wX5_readOrder k d)) (qQi G (wD G g d ++ R) sz (fun (r : Int32) (u : qS) => k r u) (fun (u : qS) => wD G g u ++ R)) 0 0 (va_A (wD G g d ++ R) sz) := by
  refine Met.ofW (cc := cX5_readOrder) (maxL := 4) (ret := (some .boolean)) (by decide) rfl ?_
  intro p e s m args below meth c s₁ B hml hv
  obtain ⟨rfl, hsz, hP, hD0, hKn0, h⟩ := hv
  have hx := B.exec
  have hb := B.bytes
  have hr := B.returns
  have hts := atoms_spec (ws := wsX5_readOrder) B.pre
  have hown : s.vm.findClass RX5 = some m.cls := findClass_of_methodNamed B.named
  have hlocks := B.notSynchronized
  subst hsz
  have hD := hD0.self (sz := s.heap.size)
  generalize hAe : va_A (wD G g d ++ R) s.heap.size = A at hD hKn0 ⊢
  have hA : ∀ q : Nat, s.heap.size ≤ q → A q := fun q h => by rw [← hAe]; exact Or.inr h
  have hKn : qKn G A s s.heap := hKn0
  have hS : va_S A s.heap s.heap [] := va_S.rf
  have hret : ∀ (r : Int32) (d' : qS) (H : Heap) (locs : List Loc) (ls : Array Slot) (pc : Nat), k r d' → narrow .boolean (.int r) = .int r → va_P G.1 vwCl (wD G g d' ++ R) H → va_D A (wD G g d' ++ R) → va_S A s.heap H locs → decode cX5_readOrder pc = .ok (.ireturn, 1) → W p l e rmX5_readOrder s m #[.ref (g 0)] below meth c H locs 0 0 (MQ below (qQi G (wD G g d ++ R) s.heap.size (fun (r : Int32) (u : qS) => k r u) (fun (u : qS) => wD G g u ++ R)) #[.ref (g 0)] s 0 0 A) (F0 m pc ls [.int r]) := fun r d' H locs ls pc hk hn hP hD hS hd => W.zret hx hb hr hn (fun t ht hW => q_ri (u := (d' : qS)) hAe hk hP hD hS ht) hS.2.2 hd
  have hl := lv_entry ([.ref (g 0)]) (n := 4) (Nat.le_of_ble_eq_true rfl)
  rw [lg_entry_eq]
  generalize (lg_sl ([.ref (g 0)]) ++ List.replicate (4 - (lg_sl ([.ref (g 0)])).length) Slot.unset).toArray = ls at hl ⊢
  have hl : lv_has ls 4 [(0, .ref (g 0))] := hl
  unfold wX5_readOrder at h
  show W p l e rmX5_readOrder s m #[.ref (g 0)] below meth c s.heap [] 0 0 _ _
  refine lv_aload_n hx hb dX5_readOrder_0 rfl (lv_at hl 0 rfl) ?_
  refine va_ldcS hx hb hown (hKn.2.2.2.2.1 _ (List.mem_of_getElem? (i := 0) rfl)) dX5_readOrder_1 ?_
  refine lv_aload_n hx hb dX5_readOrder_3 rfl (lv_at hl 0 rfl) ?_
  refine qc_vi (As := []) (rest := [.ref (G.2.2.2.1 (0)), .ref (g 0)]) ⟨hx, hb, hml, hown, hts⟩ (mX5_sign l G _ _ g d _ ) (cwV 0 hts gX5_readOrder_X5_sign rfl rfl rfl (by decide +kernel) ⟨Nat.le_of_ble_eq_true rfl, Nat.le_of_ble_eq_true rfl⟩) hP hD hS hA hKn 0 5 rfl rfl rfl h rfl hl.1 rfl (Nat.le_of_ble_eq_true rfl) dX5_readOrder_4 ⟨Nat.zero_le _, Nat.zero_le _⟩ (fun r6 d7 H locs h hP hD hS => ?_)
  have hP : va_P G.1 vwCl (wD G g d7 ++ R) _ := hP
  have hD : va_D A (wD G g d7 ++ R) := hD
  obtain ⟨hi, h⟩ := h
  refine qc_ki (As := [.int r6]) (rest := [.ref (g 0)]) ⟨hx, hb, hml, hown, hts⟩ (mJ0_indexOf_0f7a4 l G _ _ _ (0) (r6)) (cwV 1 hts gX5_readOrder_J0_indexOf_0f7a4 rfl rfl rfl (by decide +kernel) ⟨Nat.le_of_ble_eq_true rfl, Nat.le_of_ble_eq_true rfl⟩) hP hD hS hA hKn hi h rfl hl.1 rfl (Nat.le_of_ble_eq_true rfl) dX5_readOrder_7 ⟨Nat.zero_le _, Nat.zero_le _⟩ (fun r8 _ H locs h hP hD hS => ?_)
  have hP : va_P G.1 vwCl (wD G g d7 ++ R) _ := hP
  have hD : va_D A (wD G g d7 ++ R) := hD
  refine va_put (D := G.1) (ci := 5) (v := .int r8) (ty := .int) (C := RX5) (T := TX5) (N := 6) hx hb hts iX5_readOrder_X5 tyX5 tyX5_ok nmX5 hown hKn.k hP hD hS 0 rfl rfl 3 (by decide) (hts _ lX5_readOrder_f58) (fun _ h9 => h9) rfl (by decide +kernel) rfl rfl (Nat.le_of_ble_eq_true rfl) dX5_readOrder_10 (fun H locs hP hD hS => ?_)
  obtain ⟨d9, ed9⟩ : ∃ z : qS, z = up2 d7 0 2 r8 := ⟨_, rfl⟩
  have hP : va_P G.1 vwCl (wD G g d9 ++ R) H := by rw [ed9]; exact hP
  have hD : va_D A (wD G g d9 ++ R) := by rw [ed9]; exact hD
  have h := h d9 ed9
  refine lv_aload_n hx hb dX5_readOrder_13 rfl (lv_at hl 0 rfl) ?_
  refine lv_iconst (v := (0 : Int32)) hx hb dX5_readOrder_14 (by decide) ?_
  refine va_put (D := G.1) (ci := 5) (v := .int (0 : Int32)) (ty := .int) (C := RX5) (T := TX5) (N := 6) hx hb hts iX5_readOrder_X5 tyX5 tyX5_ok nmX5 hown hKn.k hP hD hS 0 rfl rfl 5 (by decide) (hts _ lX5_readOrder_f61) (fun _ h9 => h9) rfl (by decide +kernel) rfl rfl (Nat.le_of_ble_eq_true rfl) dX5_readOrder_15 (fun H locs hP hD hS => ?_)
  obtain ⟨d10, ed10⟩ : ∃ z : qS, z = up2 d9 0 3 (0 : Int32) := ⟨_, rfl⟩
  have hP : va_P G.1 vwCl (wD G g d10 ++ R) H := by rw [ed10]; exact hP
  have hD : va_D A (wD G g d10 ++ R) := by rw [ed10]; exact hD
  have h := h d10 ed10
  refine lv_aload_n hx hb dX5_readOrder_18 rfl (lv_at hl 0 rfl) ?_
  refine va_get (D := G.1) (ci := 5) (v := .int (d10 0 2)) (C := RX5) (T := TX5) (N := 6) hx hb hts iX5_readOrder_X5 hown hKn.k hP 0 rfl rfl 3 (by decide) (hts _ lX5_readOrder_f58) (fun _ h9 => h9) rfl dX5_readOrder_19 ?_
  refine lv_if_ge (tgt := 27) hx hb dX5_readOrder_22 (by decide) (fun c1 => ?_) (fun c1 => ?_)
  · have h := h.1 c1
    refine lv_aload_n hx hb dX5_readOrder_27 rfl (lv_at hl 0 rfl) ?_
    refine lv_dup hx hb dX5_readOrder_28 rfl ?_
    refine va_get (D := G.1) (ci := 5) (v := .int (d10 0 1)) (C := RX5) (T := TX5) (N := 6) hx hb hts iX5_readOrder_X5 hown hKn.k hP 0 rfl rfl 2 (by decide) (hts _ lX5_readOrder_f36) (fun _ h9 => h9) rfl dX5_readOrder_29 ?_
    refine lv_iconst (v := (1 : Int32)) hx hb dX5_readOrder_32 (by decide) ?_
    refine lv_iadd hx hb dX5_readOrder_33 ?_
    refine lv_topi (fun y11 ey11 => ?_)
    have h := h y11 ey11
    refine va_put (D := G.1) (ci := 5) (v := .int y11) (ty := .int) (C := RX5) (T := TX5) (N := 6) hx hb hts iX5_readOrder_X5 tyX5 tyX5_ok nmX5 hown hKn.k hP hD hS 0 rfl rfl 2 (by decide) (hts _ lX5_readOrder_f36) (fun _ h9 => h9) rfl (by decide +kernel) rfl rfl (Nat.le_of_ble_eq_true rfl) dX5_readOrder_34 (fun H locs hP hD hS => ?_)
    obtain ⟨d12, ed12⟩ : ∃ z : qS, z = up2 d10 0 1 y11 := ⟨_, rfl⟩
    have hP : va_P G.1 vwCl (wD G g d12 ++ R) H := by rw [ed12]; exact hP
    have hD : va_D A (wD G g d12 ++ R) := by rw [ed12]; exact hD
    have h := h d12 ed12
    refine lv_aload_n hx hb dX5_readOrder_37 rfl (lv_at hl 0 rfl) ?_
    refine va_get (D := G.1) (ci := 5) (v := .int (d12 0 2)) (C := RX5) (T := TX5) (N := 6) hx hb hts iX5_readOrder_X5 hown hKn.k hP 0 rfl rfl 3 (by decide) (hts _ lX5_readOrder_f58) (fun _ h9 => h9) rfl dX5_readOrder_38 ?_
    refine qc_sr (As := [.int (d12 0 2)]) (rest := []) ⟨hx, hb, hml, hown, hts⟩ (mX5_shapeOf l G _ _ _ ((d12 0 2))) (va_cwS 1 hts gX5_readOrder_X5_shapeOf rfl rfl rfl (by decide +kernel) ⟨Nat.le_of_ble_eq_true rfl, Nat.le_of_ble_eq_true rfl⟩) hP hD hS hA hKn h rfl hl.1 rfl (Nat.le_of_ble_eq_true rfl) dX5_readOrder_41 ⟨Nat.zero_le _, Nat.zero_le _⟩ (fun r13 _ H locs h hP hD hS => ?_)
    obtain ⟨i14, rfl, h⟩ := h
    have hP : va_P G.1 vwCl (wD G g d12 ++ R) _ := hP
    have hD : va_D A (wD G g d12 ++ R) := hD
    refine lv_astore_n (lv' := [(1, .ref (G.2.2.2.1 (i14))), (0, .ref (g 0))]) hx hb dX5_readOrder_44 rfl hl (by decide) rfl (fun ls hl => ?_)
    refine lv_iconst (v := (1 : Int32)) hx hb dX5_readOrder_45 (by decide) ?_
    refine lv_istore_n (lv' := [(2, .int (1 : Int32)), (1, .ref (G.2.2.2.1 (i14))), (0, .ref (g 0))]) hx hb dX5_readOrder_46 rfl hl (by decide) rfl (fun ls hl => ?_)
    refine lv_iconst (v := (0 : Int32)) hx hb dX5_readOrder_47 (by decide) ?_
    refine lv_istore_n (lv' := [(3, .int (0 : Int32)), (2, .int (1 : Int32)), (1, .ref (G.2.2.2.1 (i14))), (0, .ref (g 0))]) hx hb dX5_readOrder_48 rfl hl (by decide) rfl (fun ls hl => ?_)
    obtain ⟨n15, h⟩ := h
    exact kX5_readOrder_b49 hx hb hml hown hts hA hKn hret n15 d12 i14 (1 : Int32) (0 : Int32) _ _ _ h hP hD hS (lv_sub hl [3, 2, 1, 0] rfl)
  · have h := h.2 c1
    refine lv_iconst (v := (0 : Int32)) hx hb dX5_readOrder_25 (by decide) ?_
    exact hret _ _ _ _ _ _ h rfl hP hD hS dX5_readOrder_26
abbrev rmX5_readNextOrder : Room := { frames := 5, cells := 0, slots := 0, locals := 114 }
theorem lX5_readNextOrder_f36 : Cond.fieldLink RX5 36 "QuarryBlends$Pad" "place" "I" ∈ wsX5_readNextOrder := by decide +kernel
theorem iX5_readNextOrder_X5 : ∀ w ∈ wsX50, w ∈ wsX5_readNextOrder := by decide +kernel
set_option maxHeartbeats 4000000 in
set_option maxRecDepth 100000 in
theorem kX5_readNextOrder_b28 {p : Program} {l : Launch} {e : Env} {s : State} {m : MethodId} {args : Array Value} {below : List Frame} {meth : Method} {c : Code} {G : qG} {A : Nat → Prop} {Qf : State → Prop} {R : va_W} {g : Nat → Nat} {k : Int32 → qS → Prop} (hx : p.tables.exec = Jvm.exec) (hb : c.code = cX5_readNextOrder) (hml : c.maxLocals = 1) (hown : s.vm.findClass RX5 = some m.cls) (hts : ∀ w ∈ wsX5_readNextOrder, w.before args s = true) (hA : ∀ q : Nat, s.heap.size ≤ q → A q) (hKn : qKn G A s s.heap) (hret : ∀ (r : Int32) (d : qS) (H : Heap) (locs : List Loc) (ls : Array Slot) (pc : Nat), k r d → narrow .boolean (.int r) = .int r → va_P G.1 vwCl (wD G g d ++ R) H → va_D A (wD G g d ++ R) → va_S A s.heap H locs → decode cX5_readNextOrder pc = .ok (.ireturn, 1) → W p l e rmX5_readNextOrder s m args below meth c H locs 0 0 Qf (F0 m pc ls [.int r])) : ∀ (d : qS) (z0 : Int32) (H : Heap) (locs : List Loc) (ls : Array Slot), wX5_readNextOrder_b28 k d z0 → va_P G.1 vwCl (wD G g d ++ R) H → va_D A (wD G g d ++ R) → va_S A s.heap H locs → lv_has ls 1 [] → W p l e rmX5_readNextOrder s m args below meth c H locs 0 0 Qf (F0 m 28 ls [.int z0]) := by
  intro d z0 H locs ls h hP hD hS hl
  unfold wX5_readNextOrder_b28 at h
  obtain ⟨hn1, h⟩ := h
  exact hret _ _ _ _ _ _ h hn1 hP hD hS dX5_readNextOrder_28
set_option maxHeartbeats 4000000 in
set_option maxRecDepth 100000 in
theorem kX5_readNextOrder_b27 {p : Program} {l : Launch} {e : Env} {s : State} {m : MethodId} {args : Array Value} {below : List Frame} {meth : Method} {c : Code} {G : qG} {A : Nat → Prop} {Qf : State → Prop} {R : va_W} {g : Nat → Nat} {k : Int32 → qS → Prop} (hx : p.tables.exec = Jvm.exec) (hb : c.code = cX5_readNextOrder) (hml : c.maxLocals = 1) (hown : s.vm.findClass RX5 = some m.cls) (hts : ∀ w ∈ wsX5_readNextOrder, w.before args s = true) (hA : ∀ q : Nat, s.heap.size ≤ q → A q) (hKn : qKn G A s s.heap) (hret : ∀ (r : Int32) (d : qS) (H : Heap) (locs : List Loc) (ls : Array Slot) (pc : Nat), k r d → narrow .boolean (.int r) = .int r → va_P G.1 vwCl (wD G g d ++ R) H → va_D A (wD G g d ++ R) → va_S A s.heap H locs → decode cX5_readNextOrder pc = .ok (.ireturn, 1) → W p l e rmX5_readNextOrder s m args below meth c H locs 0 0 Qf (F0 m pc ls [.int r])) : ∀ (d : qS) (H : Heap) (locs : List Loc) (ls : Array Slot), wX5_readNextOrder_b27 k d → va_P G.1 vwCl (wD G g d ++ R) H → va_D A (wD G g d ++ R) → va_S A s.heap H locs → lv_has ls 1 [] → W p l e rmX5_readNextOrder s m args below meth c H locs 0 0 Qf (F0 m 27 ls []) := by
  intro d H locs ls h hP hD hS hl
  unfold wX5_readNextOrder_b27 at h
  refine lv_iconst (v := (0 : Int32)) hx hb dX5_readNextOrder_27 (by decide) ?_
  exact kX5_readNextOrder_b28 hx hb hml hown hts hA hKn hret d (0 : Int32) _ _ _ h hP hD hS (lv_sub hl [] rfl)
set_option maxHeartbeats 4000000 in
set_option maxRecDepth 100000 in
theorem kX5_readNextOrder_b16 {p : Program} {l : Launch} {e : Env} {s : State} {m : MethodId} {args : Array Value} {below : List Frame} {meth : Method} {c : Code} {G : qG} {A : Nat → Prop} {Qf : State → Prop} {R : va_W} {g : Nat → Nat} {k : Int32 → qS → Prop} (hx : p.tables.exec = Jvm.exec) (hb : c.code = cX5_readNextOrder) (hml : c.maxLocals = 1) (hown : s.vm.findClass RX5 = some m.cls) (hts : ∀ w ∈ wsX5_readNextOrder, w.before args s = true) (hA : ∀ q : Nat, s.heap.size ≤ q → A q) (hKn : qKn G A s s.heap) (hret : ∀ (r : Int32) (d : qS) (H : Heap) (locs : List Loc) (ls : Array Slot) (pc : Nat), k r d → narrow .boolean (.int r) = .int r → va_P G.1 vwCl (wD G g d ++ R) H → va_D A (wD G g d ++ R) → va_S A s.heap H locs → decode cX5_readNextOrder pc = .ok (.ireturn, 1) → W p l e rmX5_readNextOrder s m args below meth c H locs 0 0 Qf (F0 m pc ls [.int r])) : ∀ (d : qS) (H : Heap) (locs : List Loc) (ls : Array Slot), wX5_readNextOrder_b16 k d → va_P G.1 vwCl (wD G g d ++ R) H → va_D A (wD G g d ++ R) → va_S A s.heap H locs → lv_has ls 1 [(0, .ref (g 0))] → W p l e rmX5_readNextOrder s m args below meth c H locs 0 0 Qf (F0 m 16 ls []) := by
  intro d H locs ls h hP hD hS hl
  unfold wX5_readNextOrder_b16 at h
  refine lv_aload_n hx hb dX5_readNextOrder_16 rfl (lv_at hl 0 rfl) ?_
  refine qc_vi (As := []) (rest := []) ⟨hx, hb, hml, hown, hts⟩ (mX5_readOrder l G _ _ g d _ ) (cwV 0 hts gX5_readNextOrder_X5_readOrder rfl rfl rfl (by decide +kernel) ⟨Nat.le_of_ble_eq_true rfl, Nat.le_of_ble_eq_true rfl⟩) hP hD hS hA hKn 0 5 rfl rfl rfl h rfl hl.1 rfl (Nat.le_of_ble_eq_true rfl) dX5_readNextOrder_17 ⟨Nat.zero_le _, Nat.zero_le _⟩ (fun r1 d2 H locs h hP hD hS => ?_)
  have hP : va_P G.1 vwCl (wD G g d2 ++ R) _ := hP
  have hD : va_D A (wD G g d2 ++ R) := hD
  refine lv_if_eq (tgt := 27) hx hb dX5_readNextOrder_20 (by decide) (fun c1 => ?_) (fun c1 => ?_)
  · have h := h.1 c1
    exact kX5_readNextOrder_b27 hx hb hml hown hts hA hKn hret d2 _ _ _ h hP hD hS (lv_sub hl [] rfl)
  · have h := h.2 c1
    refine lv_iconst (v := (1 : Int32)) hx hb dX5_readNextOrder_23 (by decide) ?_
    refine lv_goto (tgt := 28) hx hb dX5_readNextOrder_24 (by decide) ?_
    exact kX5_readNextOrder_b28 hx hb hml hown hts hA hKn hret d2 (1 : Int32) _ _ _ h hP hD hS (lv_sub hl [] rfl)
set_option maxHeartbeats 4000000 in
set_option maxRecDepth 100000 in
theorem mX5_readNextOrder (l : Launch) (G : qG) (k : Int32 → qS → Prop) (R : va_W) (g : Nat → Nat) (d : qS) (sz : Nat) : Met l yX5_readNextOrder wsX5_readNextOrder rmX5_readNextOrder (qPc G [.ref (g 0)] (wD G g d ++ R) sz (wX5_readNextOrder k d)) (qQi G (wD G g d ++ R) sz (fun (r : Int32) (u : qS) => k r u) (fun (u : qS) => wD G g u ++ R)) 0 0 (va_A (wD G g d ++ R) sz) := by
  refine Met.ofW (cc := cX5_readNextOrder) (maxL := 1) (ret := (some .boolean)) (by decide) rfl ?_
  intro p e s m args below meth c s₁ B hml hv
  obtain ⟨rfl, hsz, hP, hD0, hKn0, h⟩ := hv
  have hx := B.exec
  have hb := B.bytes
  have hr := B.returns
  have hts := atoms_spec (ws := wsX5_readNextOrder) B.pre
  have hown : s.vm.findClass RX5 = some m.cls := findClass_of_methodNamed B.named
  have hlocks := B.notSynchronized
  subst hsz
  have hD := hD0.self (sz := s.heap.size)
  generalize hAe : va_A (wD G g d ++ R) s.heap.size = A at hD hKn0 ⊢
  have hA : ∀ q : Nat, s.heap.size ≤ q → A q := fun q h => by rw [← hAe]; exact Or.inr h
  have hKn : qKn G A s s.heap := hKn0
  have hS : va_S A s.heap s.heap [] := va_S.rf
  have hret : ∀ (r : Int32) (d' : qS) (H : Heap) (locs : List Loc) (ls : Array Slot) (pc : Nat), k r d' → narrow .boolean (.int r) = .int r → va_P G.1 vwCl (wD G g d' ++ R) H → va_D A (wD G g d' ++ R) → va_S A s.heap H locs → decode cX5_readNextOrder pc = .ok (.ireturn, 1) → W p l e rmX5_readNextOrder s m #[.ref (g 0)] below meth c H locs 0 0 (MQ below (qQi G (wD G g d ++ R) s.heap.size (fun (r : Int32) (u : qS) => k r u) (fun (u : qS) => wD G g u ++ R)) #[.ref (g 0)] s 0 0 A) (F0 m pc ls [.int r]) := fun r d' H locs ls pc hk hn hP hD hS hd => W.zret hx hb hr hn (fun t ht hW => q_ri (u := (d' : qS)) hAe hk hP hD hS ht) hS.2.2 hd
  have hl := lv_entry ([.ref (g 0)]) (n := 1) (Nat.le_of_ble_eq_true rfl)
  rw [lg_entry_eq]
  generalize (lg_sl ([.ref (g 0)]) ++ List.replicate (1 - (lg_sl ([.ref (g 0)])).length) Slot.unset).toArray = ls at hl ⊢
  have hl : lv_has ls 1 [(0, .ref (g 0))] := hl
  unfold wX5_readNextOrder at h
  show W p l e rmX5_readNextOrder s m #[.ref (g 0)] below meth c s.heap [] 0 0 _ _
  refine lv_aload_n hx hb dX5_readNextOrder_0 rfl (lv_at hl 0 rfl) ?_
  refine va_get (D := G.1) (ci := 5) (v := .int (d 0 1)) (C := RX5) (T := TX5) (N := 6) hx hb hts iX5_readNextOrder_X5 hown hKn.k hP 0 rfl rfl 2 (by decide) (hts _ lX5_readNextOrder_f36) (fun _ h9 => h9) rfl dX5_readNextOrder_1 ?_
  refine lv_if_eq (tgt := 16) hx hb dX5_readNextOrder_4 (by decide) (fun c1 => ?_) (fun c1 => ?_)
  · have h := h.1 c1
    exact kX5_readNextOrder_b16 hx hb hml hown hts hA hKn hret d _ _ _ h hP hD hS (lv_sub hl [0] rfl)
  · have h := h.2 c1
    refine lv_aload_n hx hb dX5_readNextOrder_7 rfl (lv_at hl 0 rfl) ?_
    refine lv_bipush (v := (59 : Int32)) hx hb dX5_readNextOrder_8 (by decide) ?_
    refine qc_vi (As := [.int (59 : Int32)]) (rest := []) ⟨hx, hb, hml, hown, hts⟩ (mX5_readSign l G _ _ g d _ (59 : Int32)) (cwV 1 hts gX5_readNextOrder_X5_readSign rfl rfl rfl (by decide +kernel) ⟨Nat.le_of_ble_eq_true rfl, Nat.le_of_ble_eq_true rfl⟩) hP hD hS hA hKn 0 5 rfl rfl rfl h rfl hl.1 rfl (Nat.le_of_ble_eq_true rfl) dX5_readNextOrder_10 ⟨Nat.zero_le _, Nat.zero_le _⟩ (fun r3 d4 H locs h hP hD hS => ?_)
    have hP : va_P G.1 vwCl (wD G g d4 ++ R) _ := hP
    have hD : va_D A (wD G g d4 ++ R) := hD
    refine lv_if_eq (tgt := 27) hx hb dX5_readNextOrder_13 (by decide) (fun c1 => ?_) (fun c1 => ?_)
    · have h := h.1 c1
      exact kX5_readNextOrder_b27 hx hb hml hown hts hA hKn hret d4 _ _ _ h hP hD hS (lv_sub hl [] rfl)
    · have h := h.2 c1
      exact kX5_readNextOrder_b16 hx hb hml hown hts hA hKn hret d4 _ _ _ h hP hD hS (lv_sub hl [0] rfl)
abbrev rmX5_firstFault : Room := { frames := 6, cells := 0, slots := 0, locals := 134 }
theorem lX5_firstFault_f25 : Cond.fieldLink RX5 25 "QuarryBlends$Pad" "length" "I" ∈ wsX5_firstFault := by decide +kernel
theorem lX5_firstFault_f36 : Cond.fieldLink RX5 36 "QuarryBlends$Pad" "place" "I" ∈ wsX5_firstFault := by decide +kernel
theorem iX5_firstFault_X5 : ∀ w ∈ wsX50, w ∈ wsX5_firstFault := by decide +kernel
set_option maxHeartbeats 4000000 in
set_option maxRecDepth 100000 in
theorem kX5_firstFault_b56 {p : Program} {l : Launch} {e : Env} {s : State} {m : MethodId} {args : Array Value} {below : List Frame} {meth : Method} {c : Code} {G : qG} {A : Nat → Prop} {Qf : State → Prop} {R : va_W} {g : Nat → Nat} {k : Int32 → qS → Prop} (hx : p.tables.exec = Jvm.exec) (hb : c.code = cX5_firstFault) (hml : c.maxLocals = 3) (hown : s.vm.findClass RX5 = some m.cls) (hts : ∀ w ∈ wsX5_firstFault, w.before args s = true) (hA : ∀ q : Nat, s.heap.size ≤ q → A q) (hKn : qKn G A s s.heap) (hret : ∀ (r : Int32) (d : qS) (H : Heap) (locs : List Loc) (ls : Array Slot) (pc : Nat), k r d → va_P G.1 vwCl (wD G g d ++ R) H → va_D A (wD G g d ++ R) → va_S A s.heap H locs → decode cX5_firstFault pc = .ok (.ireturn, 1) → W p l e rmX5_firstFault s m args below meth c H locs 0 0 Qf (F0 m pc ls [.int r])) : ∀ (d : qS) (z0 : Int32) (H : Heap) (locs : List Loc) (ls : Array Slot), wX5_firstFault_b56 k d z0 → va_P G.1 vwCl (wD G g d ++ R) H → va_D A (wD G g d ++ R) → va_S A s.heap H locs → lv_has ls 3 [] → W p l e rmX5_firstFault s m args below meth c H locs 0 0 Qf (F0 m 56 ls [.int z0]) := by
  intro d z0 H locs ls h hP hD hS hl
  unfold wX5_firstFault_b56 at h
  exact hret _ _ _ _ _ _ h hP hD hS dX5_firstFault_56
set_option maxHeartbeats 4000000 in
set_option maxRecDepth 100000 in
theorem kX5_firstFault_b43 {p : Program} {l : Launch} {e : Env} {s : State} {m : MethodId} {args : Array Value} {below : List Frame} {meth : Method} {c : Code} {G : qG} {A : Nat → Prop} {Qf : State → Prop} {R : va_W} {g : Nat → Nat} {k : Int32 → qS → Prop} (hx : p.tables.exec = Jvm.exec) (hb : c.code = cX5_firstFault) (hml : c.maxLocals = 3) (hown : s.vm.findClass RX5 = some m.cls) (hts : ∀ w ∈ wsX5_firstFault, w.before args s = true) (hA : ∀ q : Nat, s.heap.size ≤ q → A q) (hKn : qKn G A s s.heap) (hret : ∀ (r : Int32) (d : qS) (H : Heap) (locs : List Loc) (ls : Array Slot) (pc : Nat), k r d → va_P G.1 vwCl (wD G g d ++ R) H → va_D A (wD G g d ++ R) → va_S A s.heap H locs → decode cX5_firstFault pc = .ok (.ireturn, 1) → W p l e rmX5_firstFault s m args below meth c H locs 0 0 Qf (F0 m pc ls [.int r])) : ∀ (d : qS) (x1 : Int32) (H : Heap) (locs : List Loc) (ls : Array Slot), wX5_firstFault_b43 k d x1 → va_P G.1 vwCl (wD G g d ++ R) H → va_D A (wD G g d ++ R) → va_S A s.heap H locs → lv_has ls 3 [(0, .ref (g 0)), (1, .int x1)] → W p l e rmX5_firstFault s m args below meth c H locs 0 0 Qf (F0 m 43 ls []) := by
  intro d x1 H locs ls h hP hD hS hl
  unfold wX5_firstFault_b43 at h
  refine lv_iload_n hx hb dX5_firstFault_43 rfl (lv_at hl 1 rfl) ?_
  refine lv_if_eq (tgt := 52) hx hb dX5_firstFault_44 (by decide) (fun c1 => ?_) (fun c1 => ?_)
  · have h := h.1 c1
    refine lv_aload_n hx hb dX5_firstFault_52 rfl (lv_at hl 0 rfl) ?_
    refine va_get (D := G.1) (ci := 5) (v := .int (d 0 1)) (C := RX5) (T := TX5) (N := 6) hx hb hts iX5_firstFault_X5 hown hKn.k hP 0 rfl rfl 2 (by decide) (hts _ lX5_firstFault_f36) (fun _ h9 => h9) rfl dX5_firstFault_53 ?_
    exact kX5_firstFault_b56 hx hb hml hown hts hA hKn hret d (d 0 1) _ _ _ h hP hD hS (lv_sub hl [] rfl)
  · have h := h.2 c1
    refine lv_bipush (v := (-6 : Int32)) hx hb dX5_firstFault_47 (by decide) ?_
    refine lv_goto (tgt := 56) hx hb dX5_firstFault_49 (by decide) ?_
    exact kX5_firstFault_b56 hx hb hml hown hts hA hKn hret d (-6 : Int32) _ _ _ h hP hD hS (lv_sub hl [] rfl)
set_option maxHeartbeats 4000000 in
set_option maxRecDepth 100000 in
theorem kX5_firstFault_b11 {p : Program} {l : Launch} {e : Env} {s : State} {m : MethodId} {args : Array Value} {below : List Frame} {meth : Method} {c : Code} {G : qG} {A : Nat → Prop} {Qf : State → Prop} {R : va_W} {g : Nat → Nat} {k : Int32 → qS → Prop} (hx : p.tables.exec = Jvm.exec) (hb : c.code = cX5_firstFault) (hml : c.maxLocals = 3) (hown : s.vm.findClass RX5 = some m.cls) (hts : ∀ w ∈ wsX5_firstFault, w.before args s = true) (hA : ∀ q : Nat, s.heap.size ≤ q → A q) (hKn : qKn G A s s.heap) (hret : ∀ (r : Int32) (d : qS) (H : Heap) (locs : List Loc) (ls : Array Slot) (pc : Nat), k r d → va_P G.1 vwCl (wD G g d ++ R) H → va_D A (wD G g d ++ R) → va_S A s.heap H locs → decode cX5_firstFault pc = .ok (.ireturn, 1) → W p l e rmX5_firstFault s m args below meth c H locs 0 0 Qf (F0 m pc ls [.int r])) : ∀ (n : Nat) (d : qS) (x1 : Int32) (x2 : Int32) (H : Heap) (locs : List Loc) (ls : Array Slot), wX5_firstFault_b11 k n d x1 x2 → va_P G.1 vwCl (wD G g d ++ R) H → va_D A (wD G g d ++ R) → va_S A s.heap H locs → lv_has ls 3 [(0, .ref (g 0)), (1, .int x1), (2, .int x2)] → W p l e rmX5_firstFault s m args below meth c H locs 0 0 Qf (F0 m 11 ls []) := by
  intro n
  induction n with
  | zero => intros; rename_i h _ _ _ _; exact h.elim
  | succ n ih =>
    intro d x1 x2 H locs ls h hP hD hS hl
    unfold wX5_firstFault_b11 at h
    refine lv_iload_n hx hb dX5_firstFault_11 rfl (lv_at hl 2 rfl) ?_
    refine lv_bipush (v := (80 : Int32)) hx hb dX5_firstFault_12 (by decide) ?_
    refine lv_icmp_ge (tgt := 43) hx hb dX5_firstFault_14 (by decide) (fun c1 => ?_) (fun c1 => ?_)
    · have h := h.1 c1
      exact kX5_firstFault_b43 hx hb hml hown hts hA hKn hret d x1 _ _ _ h hP hD hS (lv_sub hl [0, 1] rfl)
    · have h := h.2 c1
      refine lv_iload_n hx hb dX5_firstFault_17 rfl (lv_at hl 1 rfl) ?_
      refine lv_if_eq (tgt := 43) hx hb dX5_firstFault_18 (by decide) (fun c1 => ?_) (fun c1 => ?_)
      · have h := h.1 c1
        exact kX5_firstFault_b43 hx hb hml hown hts hA hKn hret d x1 _ _ _ h hP hD hS (lv_sub hl [0, 1] rfl)
      · have h := h.2 c1
        refine lv_aload_n hx hb dX5_firstFault_21 rfl (lv_at hl 0 rfl) ?_
        refine va_get (D := G.1) (ci := 5) (v := .int (d 0 1)) (C := RX5) (T := TX5) (N := 6) hx hb hts iX5_firstFault_X5 hown hKn.k hP 0 rfl rfl 2 (by decide) (hts _ lX5_firstFault_f36) (fun _ h9 => h9) rfl dX5_firstFault_22 ?_
        refine lv_aload_n hx hb dX5_firstFault_25 rfl (lv_at hl 0 rfl) ?_
        refine va_get (D := G.1) (ci := 5) (v := .int (d 0 0)) (C := RX5) (T := TX5) (N := 6) hx hb hts iX5_firstFault_X5 hown hKn.k hP 0 rfl rfl 1 (by decide) (hts _ lX5_firstFault_f25) (fun _ h9 => h9) rfl dX5_firstFault_26 ?_
        refine lv_icmp_ge (tgt := 43) hx hb dX5_firstFault_29 (by decide) (fun c1 => ?_) (fun c1 => ?_)
        · have h := h.1 c1
          exact kX5_firstFault_b43 hx hb hml hown hts hA hKn hret d x1 _ _ _ h hP hD hS (lv_sub hl [0, 1] rfl)
        · have h := h.2 c1
          refine lv_aload_n hx hb dX5_firstFault_32 rfl (lv_at hl 0 rfl) ?_
          refine qc_vi (As := []) (rest := []) ⟨hx, hb, hml, hown, hts⟩ (mX5_readNextOrder l G _ _ g d _ ) (cwV 0 hts gX5_firstFault_X5_readNextOrder rfl rfl rfl (by decide +kernel) ⟨Nat.le_of_ble_eq_true rfl, Nat.le_of_ble_eq_true rfl⟩) hP hD hS hA hKn 0 5 rfl rfl rfl h rfl hl.1 rfl (Nat.le_of_ble_eq_true rfl) dX5_firstFault_33 ⟨Nat.zero_le _, Nat.zero_le _⟩ (fun r1 d2 H locs h hP hD hS => ?_)
          have hP : va_P G.1 vwCl (wD G g d2 ++ R) _ := hP
          have hD : va_D A (wD G g d2 ++ R) := hD
          refine lv_istore_n (lv' := [(1, .int r1), (0, .ref (g 0)), (2, .int x2)]) hx hb dX5_firstFault_36 rfl hl (by decide) rfl (fun ls hl => ?_)
          obtain ⟨y3, ey3⟩ : ∃ z : Int32, z = x2 + (1 : Int32) := ⟨_, rfl⟩
          have h := h y3 ey3
          refine lv_iinc (v := y3) (lv' := [(2, .int y3), (1, .int r1), (0, .ref (g 0))]) hx hb dX5_firstFault_37 hl (k := 2) rfl (by rw [ey3]; rfl) (by decide) rfl (fun ls hl => ?_)
          refine lv_goto (tgt := 11) hx hb dX5_firstFault_40 (by decide) ?_
          exact ih d2 r1 y3 _ _ _ h hP hD hS (lv_sub hl [2, 1, 0] rfl)
set_option maxHeartbeats 4000000 in
set_option maxRecDepth 100000 in
theorem mX5_firstFault (l : Launch) (G : qG) (k : Int32 → qS → Prop) (R : va_W) (g : Nat → Nat) (d : qS) (sz : Nat) : Met l yX5_firstFault wsX5_firstFault rmX5_firstFault (qPc G [.ref (g 0)] (wD G g d ++ R) sz (wX5_firstFault k d)) (qQi G (wD G g d ++ R) sz (fun (r : Int32) (u : qS) => k r u) (fun (u : qS) => wD G g u ++ R)) 0 0 (va_A (wD G g d ++ R) sz) := by
  refine Met.ofW (cc := cX5_firstFault) (maxL := 3) (ret := (some .int)) (by decide) rfl ?_
  intro p e s m args below meth c s₁ B hml hv
  obtain ⟨rfl, hsz, hP, hD0, hKn0, h⟩ := hv
  have hx := B.exec
  have hb := B.bytes
  have hr := B.returns
  have hts := atoms_spec (ws := wsX5_firstFault) B.pre
  have hown : s.vm.findClass RX5 = some m.cls := findClass_of_methodNamed B.named
  have hlocks := B.notSynchronized
  subst hsz
  have hD := hD0.self (sz := s.heap.size)
  generalize hAe : va_A (wD G g d ++ R) s.heap.size = A at hD hKn0 ⊢
  have hA : ∀ q : Nat, s.heap.size ≤ q → A q := fun q h => by rw [← hAe]; exact Or.inr h
  have hKn : qKn G A s s.heap := hKn0
  have hS : va_S A s.heap s.heap [] := va_S.rf
  have hret : ∀ (r : Int32) (d' : qS) (H : Heap) (locs : List Loc) (ls : Array Slot) (pc : Nat), k r d' → va_P G.1 vwCl (wD G g d' ++ R) H → va_D A (wD G g d' ++ R) → va_S A s.heap H locs → decode cX5_firstFault pc = .ok (.ireturn, 1) → W p l e rmX5_firstFault s m #[.ref (g 0)] below meth c H locs 0 0 (MQ below (qQi G (wD G g d ++ R) s.heap.size (fun (r : Int32) (u : qS) => k r u) (fun (u : qS) => wD G g u ++ R)) #[.ref (g 0)] s 0 0 A) (F0 m pc ls [.int r]) := fun r d' H locs ls pc hk hP hD hS hd => W.iret hx hb hr (fun t ht hW => q_ri (u := (d' : qS)) hAe hk hP hD hS ht) hS.2.2 hd
  have hl := lv_entry ([.ref (g 0)]) (n := 3) (Nat.le_of_ble_eq_true rfl)
  rw [lg_entry_eq]
  generalize (lg_sl ([.ref (g 0)]) ++ List.replicate (3 - (lg_sl ([.ref (g 0)])).length) Slot.unset).toArray = ls at hl ⊢
  have hl : lv_has ls 3 [(0, .ref (g 0))] := hl
  unfold wX5_firstFault at h
  show W p l e rmX5_firstFault s m #[.ref (g 0)] below meth c s.heap [] 0 0 _ _
  refine lv_aload_n hx hb dX5_firstFault_0 rfl (lv_at hl 0 rfl) ?_
  refine qc_vv (As := []) (rest := []) ⟨hx, hb, hml, hown, hts⟩ (mX5_startReading l G _ _ g d _ ) (cwV 0 hts gX5_firstFault_X5_startReading rfl rfl rfl (by decide +kernel) ⟨Nat.le_of_ble_eq_true rfl, Nat.le_of_ble_eq_true rfl⟩) hP hD hS hA hKn 0 5 rfl rfl rfl h rfl hl.1 rfl (Nat.le_of_ble_eq_true rfl) dX5_firstFault_1 ⟨Nat.zero_le _, Nat.zero_le _⟩ (fun d5 H locs h hP hD hS => ?_)
  have hP : va_P G.1 vwCl (wD G g d5 ++ R) _ := hP
  have hD : va_D A (wD G g d5 ++ R) := hD
  refine lv_aload_n hx hb dX5_firstFault_4 rfl (lv_at hl 0 rfl) ?_
  refine qc_vi (As := []) (rest := []) ⟨hx, hb, hml, hown, hts⟩ (mX5_readOrder l G _ _ g d5 _ ) (cwV 0 hts gX5_firstFault_X5_readOrder rfl rfl rfl (by decide +kernel) ⟨Nat.le_of_ble_eq_true rfl, Nat.le_of_ble_eq_true rfl⟩) hP hD hS hA hKn 0 5 rfl rfl rfl h rfl hl.1 rfl (Nat.le_of_ble_eq_true rfl) dX5_firstFault_5 ⟨Nat.zero_le _, Nat.zero_le _⟩ (fun r6 d7 H locs h hP hD hS => ?_)
  have hP : va_P G.1 vwCl (wD G g d7 ++ R) _ := hP
  have hD : va_D A (wD G g d7 ++ R) := hD
  refine lv_istore_n (lv' := [(1, .int r6), (0, .ref (g 0))]) hx hb dX5_firstFault_8 rfl hl (by decide) rfl (fun ls hl => ?_)
  refine lv_iconst (v := (1 : Int32)) hx hb dX5_firstFault_9 (by decide) ?_
  refine lv_istore_n (lv' := [(2, .int (1 : Int32)), (1, .int r6), (0, .ref (g 0))]) hx hb dX5_firstFault_10 rfl hl (by decide) rfl (fun ls hl => ?_)
  obtain ⟨n8, h⟩ := h
  exact kX5_firstFault_b11 hx hb hml hown hts hA hKn hret n8 d7 r6 (1 : Int32) _ _ _ h hP hD hS (lv_sub hl [2, 1, 0] rfl)
abbrev rmX9_fault : Room := { frames := 7, cells := 0, slots := 0, locals := 156 }
theorem lX9_fault_f36 : Cond.fieldLink RX9 36 "QuarryBlends" "pad" "LQuarryBlends$Pad;" ∈ wsX9_fault := by decide +kernel
theorem iX9_fault_X9 : ∀ w ∈ wsX90, w ∈ wsX9_fault := by decide +kernel
set_option maxHeartbeats 4000000 in
set_option maxRecDepth 100000 in
theorem mX9_fault (l : Launch) (G : qG) (k : Int32 → qS → qS → qS → qS → (Nat → qS) → Prop) (R : va_W) (a : Nat → Nat) (b : Nat → Nat) (g : Nat → Nat) (ae : Nat → Nat) (az : Nat → Nat → Nat) (q : qS) (o : qS) (d : qS) (tq : qS) (zs : (Nat → qS)) (sz : Nat) : Met l yX9_fault wsX9_fault rmX9_fault (qPc G [.ref (b 0)] (wQ G a q ++ (wO G a b ae g az o ++ (wD G g d ++ (wQ G ae tq ++ (wZ G az zs ++ R))))) sz (wX9_fault k q o d tq zs)) (qQi G (wQ G a q ++ (wO G a b ae g az o ++ (wD G g d ++ (wQ G ae tq ++ (wZ G az zs ++ R))))) sz (fun (r : Int32) (u : qS × qS × qS × qS × (Nat → qS)) => k r u.1 u.2.1 u.2.2.1 u.2.2.2.1 u.2.2.2.2) (fun (u : qS × qS × qS × qS × (Nat → qS)) => wQ G a u.1 ++ (wO G a b ae g az u.2.1 ++ (wD G g u.2.2.1 ++ (wQ G ae u.2.2.2.1 ++ (wZ G az u.2.2.2.2 ++ R)))))) 0 0 (va_A (wQ G a q ++ (wO G a b ae g az o ++ (wD G g d ++ (wQ G ae tq ++ (wZ G az zs ++ R))))) sz) := by
  refine Met.ofW (cc := cX9_fault) (maxL := 1) (ret := (some .int)) (by decide) rfl ?_
  intro p e s m args below meth c s₁ B hml hv
  obtain ⟨rfl, hsz, hP, hD0, hKn0, h⟩ := hv
  have hx := B.exec
  have hb := B.bytes
  have hr := B.returns
  have hts := atoms_spec (ws := wsX9_fault) B.pre
  have hown : s.vm.findClass RX9 = some m.cls := findClass_of_methodNamed B.named
  have hlocks := B.notSynchronized
  subst hsz
  have hD := hD0.self (sz := s.heap.size)
  generalize hAe : va_A (wQ G a q ++ (wO G a b ae g az o ++ (wD G g d ++ (wQ G ae tq ++ (wZ G az zs ++ R))))) s.heap.size = A at hD hKn0 ⊢
  have hA : ∀ q : Nat, s.heap.size ≤ q → A q := fun q h => by rw [← hAe]; exact Or.inr h
  have hKn : qKn G A s s.heap := hKn0
  have hS : va_S A s.heap s.heap [] := va_S.rf
  have hret : ∀ (r : Int32) (q' : qS) (o' : qS) (d' : qS) (tq' : qS) (zs' : (Nat → qS)) (H : Heap) (locs : List Loc) (ls : Array Slot) (pc : Nat), k r q' o' d' tq' zs' → va_P G.1 vwCl (wQ G a q' ++ (wO G a b ae g az o' ++ (wD G g d' ++ (wQ G ae tq' ++ (wZ G az zs' ++ R))))) H → va_D A (wQ G a q' ++ (wO G a b ae g az o' ++ (wD G g d' ++ (wQ G ae tq' ++ (wZ G az zs' ++ R))))) → va_S A s.heap H locs → decode cX9_fault pc = .ok (.ireturn, 1) → W p l e rmX9_fault s m #[.ref (b 0)] below meth c H locs 0 0 (MQ below (qQi G (wQ G a q ++ (wO G a b ae g az o ++ (wD G g d ++ (wQ G ae tq ++ (wZ G az zs ++ R))))) s.heap.size (fun (r : Int32) (u : qS × qS × qS × qS × (Nat → qS)) => k r u.1 u.2.1 u.2.2.1 u.2.2.2.1 u.2.2.2.2) (fun (u : qS × qS × qS × qS × (Nat → qS)) => wQ G a u.1 ++ (wO G a b ae g az u.2.1 ++ (wD G g u.2.2.1 ++ (wQ G ae u.2.2.2.1 ++ (wZ G az u.2.2.2.2 ++ R)))))) #[.ref (b 0)] s 0 0 A) (F0 m pc ls [.int r]) := fun r q' o' d' tq' zs' H locs ls pc hk hP hD hS hd => W.iret hx hb hr (fun t ht hW => q_ri (u := (⟨q', o', d', tq', zs'⟩ : qS × qS × qS × qS × (Nat → qS))) hAe hk hP hD hS ht) hS.2.2 hd
  have hl := lv_entry ([.ref (b 0)]) (n := 1) (Nat.le_of_ble_eq_true rfl)
  rw [lg_entry_eq]
  generalize (lg_sl ([.ref (b 0)]) ++ List.replicate (1 - (lg_sl ([.ref (b 0)])).length) Slot.unset).toArray = ls at hl ⊢
  have hl : lv_has ls 1 [(0, .ref (b 0))] := hl
  unfold wX9_fault at h
  show W p l e rmX9_fault s m #[.ref (b 0)] below meth c s.heap [] 0 0 _ _
  refine lv_aload_n hx hb dX9_fault_0 rfl (lv_at hl 0 rfl) ?_
  refine va_get (D := G.1) (ci := 9) (v := .ref (g 0)) (C := RX9) (T := TX9) (N := 5) hx hb hts iX9_fault_X9 hown hKn.k hP 18 rfl rfl 4 (by decide) (hts _ lX9_fault_f36) (fun _ h9 => h9) rfl dX9_fault_1 ?_
  obtain ⟨hP, hD⟩ := q_perm (((List.perm_append_comm_assoc _ _ _).append_left _).trans (List.perm_append_comm_assoc _ _ _)) hP hD
  have hP : va_P G.1 vwCl (wD G g d ++ (wQ G a q ++ (wO G a b ae g az o ++ (wQ G ae tq ++ (wZ G az zs ++ R))))) _ := hP
  have hD : va_D A (wD G g d ++ (wQ G a q ++ (wO G a b ae g az o ++ (wQ G ae tq ++ (wZ G az zs ++ R))))) := hD
  refine qc_vi (As := []) (rest := []) ⟨hx, hb, hml, hown, hts⟩ (mX5_firstFault l G _ _ g d _ ) (cwV 0 hts gX9_fault_X5_firstFault rfl rfl rfl (by decide +kernel) ⟨Nat.le_of_ble_eq_true rfl, Nat.le_of_ble_eq_true rfl⟩) hP hD hS hA hKn 0 5 rfl rfl rfl h rfl hl.1 rfl (Nat.le_of_ble_eq_true rfl) dX9_fault_4 ⟨Nat.zero_le _, Nat.zero_le _⟩ (fun r1 d2 H locs h hP hD hS => ?_)
  have hP : va_P G.1 vwCl (wD G g d2 ++ (wQ G a q ++ (wO G a b ae g az o ++ (wQ G ae tq ++ (wZ G az zs ++ R))))) _ := hP
  have hD : va_D A (wD G g d2 ++ (wQ G a q ++ (wO G a b ae g az o ++ (wQ G ae tq ++ (wZ G az zs ++ R))))) := hD
  obtain ⟨hP, hD⟩ := q_perm ((((List.perm_append_comm_assoc _ _ _).append_left _).trans (List.perm_append_comm_assoc _ _ _))).symm hP hD
  have hP : va_P G.1 vwCl (wQ G a q ++ (wO G a b ae g az o ++ (wD G g d2 ++ (wQ G ae tq ++ (wZ G az zs ++ R))))) _ := hP
  have hD : va_D A (wQ G a q ++ (wO G a b ae g az o ++ (wD G g d2 ++ (wQ G ae tq ++ (wZ G az zs ++ R))))) := hD
  exact hret _ _ _ _ _ _ _ _ _ _ h hP hD hS dX9_fault_7
abbrev rmX9_carryOut : Room := { frames := 7, cells := 0, slots := 0, locals := 157 }
theorem lX9_carryOut_f10 : Cond.fieldLink RX9 10 "QuarryBlends" "now" "LQuarryBlends$Quarry;" ∈ wsX9_carryOut := by decide +kernel
theorem lX9_carryOut_f196 : Cond.fieldLink RX9 196 "QuarryBlends$Pad" "length" "I" ∈ wsX9_carryOut := by decide +kernel
theorem lX9_carryOut_f22 : Cond.fieldLink RX9 22 "QuarryBlends" "history" "LQuarryBlends$History;" ∈ wsX9_carryOut := by decide +kernel
theorem lX9_carryOut_f36 : Cond.fieldLink RX9 36 "QuarryBlends" "pad" "LQuarryBlends$Pad;" ∈ wsX9_carryOut := by decide +kernel
theorem iX9_carryOut_X5 : ∀ w ∈ wsX50, w ∈ wsX9_carryOut := by decide +kernel
theorem iX9_carryOut_X9 : ∀ w ∈ wsX90, w ∈ wsX9_carryOut := by decide +kernel
set_option maxHeartbeats 4000000 in
set_option maxRecDepth 100000 in
theorem kX9_carryOut_b64 {p : Program} {l : Launch} {e : Env} {s : State} {m : MethodId} {args : Array Value} {below : List Frame} {meth : Method} {c : Code} {G : qG} {A : Nat → Prop} {Qf : State → Prop} {R : va_W} {a : Nat → Nat} {b : Nat → Nat} {g : Nat → Nat} {ae : Nat → Nat} {az : Nat → Nat → Nat} {k : Int32 → qS → qS → qS → qS → (Nat → qS) → Prop} (hx : p.tables.exec = Jvm.exec) (hb : c.code = cX9_carryOut) (hml : c.maxLocals = 2) (hown : s.vm.findClass RX9 = some m.cls) (hts : ∀ w ∈ wsX9_carryOut, w.before args s = true) (hA : ∀ q : Nat, s.heap.size ≤ q → A q) (hKn : qKn G A s s.heap) (hret : ∀ (r : Int32) (q : qS) (o : qS) (d : qS) (tq : qS) (zs : (Nat → qS)) (H : Heap) (locs : List Loc) (ls : Array Slot) (pc : Nat), k r q o d tq zs → va_P G.1 vwCl (wQ G a q ++ (wO G a b ae g az o ++ (wD G g d ++ (wQ G ae tq ++ (wZ G az zs ++ R))))) H → va_D A (wQ G a q ++ (wO G a b ae g az o ++ (wD G g d ++ (wQ G ae tq ++ (wZ G az zs ++ R))))) → va_S A s.heap H locs → decode cX9_carryOut pc = .ok (.ireturn, 1) → W p l e rmX9_carryOut s m args below meth c H locs 0 0 Qf (F0 m pc ls [.int r])) : ∀ (q : qS) (o : qS) (d : qS) (tq : qS) (zs : (Nat → qS)) (x1 : Int32) (H : Heap) (locs : List Loc) (ls : Array Slot), wX9_carryOut_b64 k q o d tq zs x1 → va_P G.1 vwCl (wQ G a q ++ (wO G a b ae g az o ++ (wD G g d ++ (wQ G ae tq ++ (wZ G az zs ++ R))))) H → va_D A (wQ G a q ++ (wO G a b ae g az o ++ (wD G g d ++ (wQ G ae tq ++ (wZ G az zs ++ R))))) → va_S A s.heap H locs → lv_has ls 2 [(0, .ref (b 0)), (1, .int x1)] → W p l e rmX9_carryOut s m args below meth c H locs 0 0 Qf (F0 m 64 ls []) := by
  intro q o d tq zs x1 H locs ls h hP hD hS hl
  unfold wX9_carryOut_b64 at h
  refine lv_aload_n hx hb dX9_carryOut_64 rfl (lv_at hl 0 rfl) ?_
  refine va_get (D := G.1) (ci := 9) (v := .ref (g 0)) (C := RX9) (T := TX9) (N := 5) hx hb hts iX9_carryOut_X9 hown hKn.k hP 18 rfl rfl 4 (by decide) (hts _ lX9_carryOut_f36) (fun _ h9 => h9) rfl dX9_carryOut_65 ?_
  refine lv_iconst (v := (0 : Int32)) hx hb dX9_carryOut_68 (by decide) ?_
  refine va_put (D := G.1) (ci := 5) (v := .int (0 : Int32)) (ty := .int) (C := RX5) (T := TX5) (N := 6) hx hb hts iX9_carryOut_X5 tyX5 tyX5_ok nmX5 hown hKn.k hP hD hS 24 rfl rfl 1 (by decide) (hts _ lX9_carryOut_f196) (fun _ h9 => h9) rfl (by decide +kernel) rfl rfl (Nat.le_of_ble_eq_true rfl) dX9_carryOut_69 (fun H locs hP hD hS => ?_)
  obtain ⟨d1, ed1⟩ : ∃ z : qS, z = up2 d 0 0 (0 : Int32) := ⟨_, rfl⟩
  have hP : va_P G.1 vwCl (wQ G a q ++ (wO G a b ae g az o ++ (wD G g d1 ++ (wQ G ae tq ++ (wZ G az zs ++ R))))) H := by rw [ed1]; exact hP
  have hD : va_D A (wQ G a q ++ (wO G a b ae g az o ++ (wD G g d1 ++ (wQ G ae tq ++ (wZ G az zs ++ R))))) := by rw [ed1]; exact hD
  have h := h d1 ed1
  refine lv_aload_n hx hb dX9_carryOut_72 rfl (lv_at hl 0 rfl) ?_
  refine lv_iload_n hx hb dX9_carryOut_73 rfl (lv_at hl 1 rfl) ?_
  refine qc_vi (As := [.int x1]) (rest := []) ⟨hx, hb, hml, hown, hts⟩ (mX9_recorded l G _ _ a b g ae az q o d1 tq zs _ x1) (cwV 1 hts gX9_carryOut_X9_recorded rfl rfl rfl (by decide +kernel) ⟨Nat.le_of_ble_eq_true rfl, Nat.le_of_ble_eq_true rfl⟩) hP hD hS hA hKn 18 9 rfl rfl rfl h rfl hl.1 rfl (Nat.le_of_ble_eq_true rfl) dX9_carryOut_74 ⟨Nat.zero_le _, Nat.zero_le _⟩ (fun r2 u H locs h hP hD hS => ?_)
  obtain ⟨q3, o4, d5, tq6, zs7⟩ := u
  have hP : va_P G.1 vwCl (wQ G a q3 ++ (wO G a b ae g az o4 ++ (wD G g d5 ++ (wQ G ae tq6 ++ (wZ G az zs7 ++ R))))) _ := hP
  have hD : va_D A (wQ G a q3 ++ (wO G a b ae g az o4 ++ (wD G g d5 ++ (wQ G ae tq6 ++ (wZ G az zs7 ++ R))))) := hD
  exact hret _ _ _ _ _ _ _ _ _ _ h hP hD hS dX9_carryOut_77
set_option maxHeartbeats 4000000 in
set_option maxRecDepth 100000 in
theorem kX9_carryOut_b35 {p : Program} {l : Launch} {e : Env} {s : State} {m : MethodId} {args : Array Value} {below : List Frame} {meth : Method} {c : Code} {G : qG} {A : Nat → Prop} {Qf : State → Prop} {R : va_W} {a : Nat → Nat} {b : Nat → Nat} {g : Nat → Nat} {ae : Nat → Nat} {az : Nat → Nat → Nat} {k : Int32 → qS → qS → qS → qS → (Nat → qS) → Prop} (hx : p.tables.exec = Jvm.exec) (hb : c.code = cX9_carryOut) (hml : c.maxLocals = 2) (hown : s.vm.findClass RX9 = some m.cls) (hts : ∀ w ∈ wsX9_carryOut, w.before args s = true) (hA : ∀ q : Nat, s.heap.size ≤ q → A q) (hKn : qKn G A s s.heap) (hret : ∀ (r : Int32) (q : qS) (o : qS) (d : qS) (tq : qS) (zs : (Nat → qS)) (H : Heap) (locs : List Loc) (ls : Array Slot) (pc : Nat), k r q o d tq zs → va_P G.1 vwCl (wQ G a q ++ (wO G a b ae g az o ++ (wD G g d ++ (wQ G ae tq ++ (wZ G az zs ++ R))))) H → va_D A (wQ G a q ++ (wO G a b ae g az o ++ (wD G g d ++ (wQ G ae tq ++ (wZ G az zs ++ R))))) → va_S A s.heap H locs → decode cX9_carryOut pc = .ok (.ireturn, 1) → W p l e rmX9_carryOut s m args below meth c H locs 0 0 Qf (F0 m pc ls [.int r])) : ∀ (n : Nat) (q : qS) (o : qS) (d : qS) (tq : qS) (zs : (Nat → qS)) (x1 : Int32) (H : Heap) (locs : List Loc) (ls : Array Slot), wX9_carryOut_b35 k n q o d tq zs x1 → va_P G.1 vwCl (wQ G a q ++ (wO G a b ae g az o ++ (wD G g d ++ (wQ G ae tq ++ (wZ G az zs ++ R))))) H → va_D A (wQ G a q ++ (wO G a b ae g az o ++ (wD G g d ++ (wQ G ae tq ++ (wZ G az zs ++ R))))) → va_S A s.heap H locs → lv_has ls 2 [(0, .ref (b 0)), (1, .int x1)] → W p l e rmX9_carryOut s m args below meth c H locs 0 0 Qf (F0 m 35 ls []) := by
  intro n
  induction n with
  | zero => intros; rename_i h _ _ _ _; exact h.elim
  | succ n ih =>
    intro q o d tq zs x1 H locs ls h hP hD hS hl
    unfold wX9_carryOut_b35 at h
    refine lv_iload_n hx hb dX9_carryOut_35 rfl (lv_at hl 1 rfl) ?_
    refine lv_bipush (v := (80 : Int32)) hx hb dX9_carryOut_36 (by decide) ?_
    refine lv_icmp_ge (tgt := 64) hx hb dX9_carryOut_38 (by decide) (fun c1 => ?_) (fun c1 => ?_)
    · have h := h.1 c1
      exact kX9_carryOut_b64 hx hb hml hown hts hA hKn hret q o d tq zs x1 _ _ _ h hP hD hS (lv_sub hl [0, 1] rfl)
    · have h := h.2 c1
      refine lv_aload_n hx hb dX9_carryOut_41 rfl (lv_at hl 0 rfl) ?_
      refine va_get (D := G.1) (ci := 9) (v := .ref (g 0)) (C := RX9) (T := TX9) (N := 5) hx hb hts iX9_carryOut_X9 hown hKn.k hP 18 rfl rfl 4 (by decide) (hts _ lX9_carryOut_f36) (fun _ h9 => h9) rfl dX9_carryOut_42 ?_
      obtain ⟨hP, hD⟩ := q_perm (((List.perm_append_comm_assoc _ _ _).append_left _).trans (List.perm_append_comm_assoc _ _ _)) hP hD
      have hP : va_P G.1 vwCl (wD G g d ++ (wQ G a q ++ (wO G a b ae g az o ++ (wQ G ae tq ++ (wZ G az zs ++ R))))) _ := hP
      have hD : va_D A (wD G g d ++ (wQ G a q ++ (wO G a b ae g az o ++ (wQ G ae tq ++ (wZ G az zs ++ R))))) := hD
      refine qc_vi (As := []) (rest := []) ⟨hx, hb, hml, hown, hts⟩ (mX5_readNextOrder l G _ _ g d _ ) (cwV 0 hts gX9_carryOut_X5_readNextOrder rfl rfl rfl (by decide +kernel) ⟨Nat.le_of_ble_eq_true rfl, Nat.le_of_ble_eq_true rfl⟩) hP hD hS hA hKn 0 5 rfl rfl rfl h rfl hl.1 rfl (Nat.le_of_ble_eq_true rfl) dX9_carryOut_45 ⟨Nat.zero_le _, Nat.zero_le _⟩ (fun r8 d9 H locs h hP hD hS => ?_)
      have hP : va_P G.1 vwCl (wD G g d9 ++ (wQ G a q ++ (wO G a b ae g az o ++ (wQ G ae tq ++ (wZ G az zs ++ R))))) _ := hP
      have hD : va_D A (wD G g d9 ++ (wQ G a q ++ (wO G a b ae g az o ++ (wQ G ae tq ++ (wZ G az zs ++ R))))) := hD
      obtain ⟨hP, hD⟩ := q_perm ((((List.perm_append_comm_assoc _ _ _).append_left _).trans (List.perm_append_comm_assoc _ _ _))).symm hP hD
      have hP : va_P G.1 vwCl (wQ G a q ++ (wO G a b ae g az o ++ (wD G g d9 ++ (wQ G ae tq ++ (wZ G az zs ++ R))))) _ := hP
      have hD : va_D A (wQ G a q ++ (wO G a b ae g az o ++ (wD G g d9 ++ (wQ G ae tq ++ (wZ G az zs ++ R))))) := hD
      refine lv_if_eq (tgt := 64) hx hb dX9_carryOut_48 (by decide) (fun c1 => ?_) (fun c1 => ?_)
      · have h := h.1 c1
        exact kX9_carryOut_b64 hx hb hml hown hts hA hKn hret q o d9 tq zs x1 _ _ _ h hP hD hS (lv_sub hl [0, 1] rfl)
      · have h := h.2 c1
        refine lv_aload_n hx hb dX9_carryOut_51 rfl (lv_at hl 0 rfl) ?_
        refine qc_vi (As := []) (rest := []) ⟨hx, hb, hml, hown, hts⟩ (mX9_obey l G _ _ a b g ae az q o d9 tq zs _ ) (cwV 0 hts gX9_carryOut_X9_obey rfl rfl rfl (by decide +kernel) ⟨Nat.le_of_ble_eq_true rfl, Nat.le_of_ble_eq_true rfl⟩) hP hD hS hA hKn 18 9 rfl rfl rfl h rfl hl.1 rfl (Nat.le_of_ble_eq_true rfl) dX9_carryOut_52 ⟨Nat.zero_le _, Nat.zero_le _⟩ (fun r10 u H locs h hP hD hS => ?_)
        obtain ⟨q11, o12, d13, tq14, zs15⟩ := u
        have hP : va_P G.1 vwCl (wQ G a q11 ++ (wO G a b ae g az o12 ++ (wD G g d13 ++ (wQ G ae tq14 ++ (wZ G az zs15 ++ R))))) _ := hP
        have hD : va_D A (wQ G a q11 ++ (wO G a b ae g az o12 ++ (wD G g d13 ++ (wQ G ae tq14 ++ (wZ G az zs15 ++ R))))) := hD
        refine lv_if_lt (tgt := 64) hx hb dX9_carryOut_55 (by decide) (fun c1 => ?_) (fun c1 => ?_)
        · have h := h.1 c1
          exact kX9_carryOut_b64 hx hb hml hown hts hA hKn hret q11 o12 d13 tq14 zs15 x1 _ _ _ h hP hD hS (lv_sub hl [0, 1] rfl)
        · have h := h.2 c1
          obtain ⟨y16, ey16⟩ : ∃ z : Int32, z = x1 + (1 : Int32) := ⟨_, rfl⟩
          have h := h y16 ey16
          refine lv_iinc (v := y16) (lv' := [(1, .int y16), (0, .ref (b 0))]) hx hb dX9_carryOut_58 hl (k := 1) rfl (by rw [ey16]; rfl) (by decide) rfl (fun ls hl => ?_)
          refine lv_goto (tgt := 35) hx hb dX9_carryOut_61 (by decide) ?_
          exact ih q11 o12 d13 tq14 zs15 y16 _ _ _ h hP hD hS (lv_sub hl [1, 0] rfl)
set_option maxHeartbeats 4000000 in
set_option maxRecDepth 100000 in
theorem mX9_carryOut (l : Launch) (G : qG) (k : Int32 → qS → qS → qS → qS → (Nat → qS) → Prop) (R : va_W) (a : Nat → Nat) (b : Nat → Nat) (g : Nat → Nat) (ae : Nat → Nat) (az : Nat → Nat → Nat) (q : qS) (o : qS) (d : qS) (tq : qS) (zs : (Nat → qS)) (sz : Nat) : Met l yX9_carryOut wsX9_carryOut rmX9_carryOut (qPc G [.ref (b 0)] (wQ G a q ++ (wO G a b ae g az o ++ (wD G g d ++ (wQ G ae tq ++ (wZ G az zs ++ R))))) sz (wX9_carryOut k q o d tq zs)) (qQi G (wQ G a q ++ (wO G a b ae g az o ++ (wD G g d ++ (wQ G ae tq ++ (wZ G az zs ++ R))))) sz (fun (r : Int32) (u : qS × qS × qS × qS × (Nat → qS)) => k r u.1 u.2.1 u.2.2.1 u.2.2.2.1 u.2.2.2.2) (fun (u : qS × qS × qS × qS × (Nat → qS)) => wQ G a u.1 ++ (wO G a b ae g az u.2.1 ++ (wD G g u.2.2.1 ++ (wQ G ae u.2.2.2.1 ++ (wZ G az u.2.2.2.2 ++ R)))))) 0 0 (va_A (wQ G a q ++ (wO G a b ae g az o ++ (wD G g d ++ (wQ G ae tq ++ (wZ G az zs ++ R))))) sz) := by
  refine Met.ofW (cc := cX9_carryOut) (maxL := 2) (ret := (some .int)) (by decide) rfl ?_
  intro p e s m args below meth c s₁ B hml hv
  obtain ⟨rfl, hsz, hP, hD0, hKn0, h⟩ := hv
  have hx := B.exec
  have hb := B.bytes
  have hr := B.returns
  have hts := atoms_spec (ws := wsX9_carryOut) B.pre
  have hown : s.vm.findClass RX9 = some m.cls := findClass_of_methodNamed B.named
  have hlocks := B.notSynchronized
  subst hsz
  have hD := hD0.self (sz := s.heap.size)
  generalize hAe : va_A (wQ G a q ++ (wO G a b ae g az o ++ (wD G g d ++ (wQ G ae tq ++ (wZ G az zs ++ R))))) s.heap.size = A at hD hKn0 ⊢
  have hA : ∀ q : Nat, s.heap.size ≤ q → A q := fun q h => by rw [← hAe]; exact Or.inr h
  have hKn : qKn G A s s.heap := hKn0
  have hS : va_S A s.heap s.heap [] := va_S.rf
  have hret : ∀ (r : Int32) (q' : qS) (o' : qS) (d' : qS) (tq' : qS) (zs' : (Nat → qS)) (H : Heap) (locs : List Loc) (ls : Array Slot) (pc : Nat), k r q' o' d' tq' zs' → va_P G.1 vwCl (wQ G a q' ++ (wO G a b ae g az o' ++ (wD G g d' ++ (wQ G ae tq' ++ (wZ G az zs' ++ R))))) H → va_D A (wQ G a q' ++ (wO G a b ae g az o' ++ (wD G g d' ++ (wQ G ae tq' ++ (wZ G az zs' ++ R))))) → va_S A s.heap H locs → decode cX9_carryOut pc = .ok (.ireturn, 1) → W p l e rmX9_carryOut s m #[.ref (b 0)] below meth c H locs 0 0 (MQ below (qQi G (wQ G a q ++ (wO G a b ae g az o ++ (wD G g d ++ (wQ G ae tq ++ (wZ G az zs ++ R))))) s.heap.size (fun (r : Int32) (u : qS × qS × qS × qS × (Nat → qS)) => k r u.1 u.2.1 u.2.2.1 u.2.2.2.1 u.2.2.2.2) (fun (u : qS × qS × qS × qS × (Nat → qS)) => wQ G a u.1 ++ (wO G a b ae g az u.2.1 ++ (wD G g u.2.2.1 ++ (wQ G ae u.2.2.2.1 ++ (wZ G az u.2.2.2.2 ++ R)))))) #[.ref (b 0)] s 0 0 A) (F0 m pc ls [.int r]) := fun r q' o' d' tq' zs' H locs ls pc hk hP hD hS hd => W.iret hx hb hr (fun t ht hW => q_ri (u := (⟨q', o', d', tq', zs'⟩ : qS × qS × qS × qS × (Nat → qS))) hAe hk hP hD hS ht) hS.2.2 hd
  have hl := lv_entry ([.ref (b 0)]) (n := 2) (Nat.le_of_ble_eq_true rfl)
  rw [lg_entry_eq]
  generalize (lg_sl ([.ref (b 0)]) ++ List.replicate (2 - (lg_sl ([.ref (b 0)])).length) Slot.unset).toArray = ls at hl ⊢
  have hl : lv_has ls 2 [(0, .ref (b 0))] := hl
  unfold wX9_carryOut at h
  show W p l e rmX9_carryOut s m #[.ref (b 0)] below meth c s.heap [] 0 0 _ _
  refine lv_aload_n hx hb dX9_carryOut_0 rfl (lv_at hl 0 rfl) ?_
  refine va_get (D := G.1) (ci := 9) (v := .ref (g 0)) (C := RX9) (T := TX9) (N := 5) hx hb hts iX9_carryOut_X9 hown hKn.k hP 18 rfl rfl 4 (by decide) (hts _ lX9_carryOut_f36) (fun _ h9 => h9) rfl dX9_carryOut_1 ?_
  obtain ⟨hP, hD⟩ := q_perm (((List.perm_append_comm_assoc _ _ _).append_left _).trans (List.perm_append_comm_assoc _ _ _)) hP hD
  have hP : va_P G.1 vwCl (wD G g d ++ (wQ G a q ++ (wO G a b ae g az o ++ (wQ G ae tq ++ (wZ G az zs ++ R))))) _ := hP
  have hD : va_D A (wD G g d ++ (wQ G a q ++ (wO G a b ae g az o ++ (wQ G ae tq ++ (wZ G az zs ++ R))))) := hD
  refine qc_vi (As := []) (rest := []) ⟨hx, hb, hml, hown, hts⟩ (mX5_firstFault l G _ _ g d _ ) (cwV 0 hts gX9_carryOut_X5_firstFault rfl rfl rfl (by decide +kernel) ⟨Nat.le_of_ble_eq_true rfl, Nat.le_of_ble_eq_true rfl⟩) hP hD hS hA hKn 0 5 rfl rfl rfl h rfl hl.1 rfl (Nat.le_of_ble_eq_true rfl) dX9_carryOut_4 ⟨Nat.zero_le _, Nat.zero_le _⟩ (fun r17 d18 H locs h hP hD hS => ?_)
  have hP : va_P G.1 vwCl (wD G g d18 ++ (wQ G a q ++ (wO G a b ae g az o ++ (wQ G ae tq ++ (wZ G az zs ++ R))))) _ := hP
  have hD : va_D A (wD G g d18 ++ (wQ G a q ++ (wO G a b ae g az o ++ (wQ G ae tq ++ (wZ G az zs ++ R))))) := hD
  obtain ⟨hP, hD⟩ := q_perm ((((List.perm_append_comm_assoc _ _ _).append_left _).trans (List.perm_append_comm_assoc _ _ _))).symm hP hD
  have hP : va_P G.1 vwCl (wQ G a q ++ (wO G a b ae g az o ++ (wD G g d18 ++ (wQ G ae tq ++ (wZ G az zs ++ R))))) _ := hP
  have hD : va_D A (wQ G a q ++ (wO G a b ae g az o ++ (wD G g d18 ++ (wQ G ae tq ++ (wZ G az zs ++ R))))) := hD
  refine lv_bipush (v := (-6 : Int32)) hx hb dX9_carryOut_7 (by decide) ?_
  refine lv_icmp_eq (tgt := 15) hx hb dX9_carryOut_9 (by decide) (fun c1 => ?_) (fun c1 => ?_)
  · have h := h.1 c1
    refine lv_aload_n hx hb dX9_carryOut_15 rfl (lv_at hl 0 rfl) ?_
    refine va_get (D := G.1) (ci := 9) (v := .ref (b 1)) (C := RX9) (T := TX9) (N := 5) hx hb hts iX9_carryOut_X9 hown hKn.k hP 18 rfl rfl 2 (by decide) (hts _ lX9_carryOut_f22) (fun _ h9 => h9) rfl dX9_carryOut_16 ?_
    refine lv_aload_n hx hb dX9_carryOut_19 rfl (lv_at hl 0 rfl) ?_
    refine va_get (D := G.1) (ci := 9) (v := .ref (a 0)) (C := RX9) (T := TX9) (N := 5) hx hb hts iX9_carryOut_X9 hown hKn.k hP 18 rfl rfl 0 (by decide) (hts _ lX9_carryOut_f10) (fun _ h9 => h9) rfl dX9_carryOut_20 ?_
    refine qc_vv (As := [.ref (a 0)]) (rest := []) ⟨hx, hb, hml, hown, hts⟩ (mX4_prepare l G _ _ a b g ae az q o d18 tq zs _ ) (cwV 1 hts gX9_carryOut_X4_prepare rfl rfl rfl (by decide +kernel) ⟨Nat.le_of_ble_eq_true rfl, Nat.le_of_ble_eq_true rfl⟩) hP hD hS hA hKn 19 4 rfl rfl rfl h rfl hl.1 rfl (Nat.le_of_ble_eq_true rfl) dX9_carryOut_23 ⟨Nat.zero_le _, Nat.zero_le _⟩ (fun u H locs h hP hD hS => ?_)
    obtain ⟨q20, o21, d22, tq23, zs24⟩ := u
    have hP : va_P G.1 vwCl (wQ G a q20 ++ (wO G a b ae g az o21 ++ (wD G g d22 ++ (wQ G ae tq23 ++ (wZ G az zs24 ++ R))))) _ := hP
    have hD : va_D A (wQ G a q20 ++ (wO G a b ae g az o21 ++ (wD G g d22 ++ (wQ G ae tq23 ++ (wZ G az zs24 ++ R))))) := hD
    refine lv_iconst (v := (0 : Int32)) hx hb dX9_carryOut_26 (by decide) ?_
    refine lv_istore_n (lv' := [(1, .int (0 : Int32)), (0, .ref (b 0))]) hx hb dX9_carryOut_27 rfl hl (by decide) rfl (fun ls hl => ?_)
    refine lv_aload_n hx hb dX9_carryOut_28 rfl (lv_at hl 1 rfl) ?_
    refine va_get (D := G.1) (ci := 9) (v := .ref (g 0)) (C := RX9) (T := TX9) (N := 5) hx hb hts iX9_carryOut_X9 hown hKn.k hP 18 rfl rfl 4 (by decide) (hts _ lX9_carryOut_f36) (fun _ h9 => h9) rfl dX9_carryOut_29 ?_
    obtain ⟨hP, hD⟩ := q_perm (((List.perm_append_comm_assoc _ _ _).append_left _).trans (List.perm_append_comm_assoc _ _ _)) hP hD
    have hP : va_P G.1 vwCl (wD G g d22 ++ (wQ G a q20 ++ (wO G a b ae g az o21 ++ (wQ G ae tq23 ++ (wZ G az zs24 ++ R))))) _ := hP
    have hD : va_D A (wD G g d22 ++ (wQ G a q20 ++ (wO G a b ae g az o21 ++ (wQ G ae tq23 ++ (wZ G az zs24 ++ R))))) := hD
    refine qc_vv (As := []) (rest := []) ⟨hx, hb, hml, hown, hts⟩ (mX5_startReading l G _ _ g d22 _ ) (cwV 0 hts gX9_carryOut_X5_startReading rfl rfl rfl (by decide +kernel) ⟨Nat.le_of_ble_eq_true rfl, Nat.le_of_ble_eq_true rfl⟩) hP hD hS hA hKn 0 5 rfl rfl rfl h rfl hl.1 rfl (Nat.le_of_ble_eq_true rfl) dX9_carryOut_32 ⟨Nat.zero_le _, Nat.zero_le _⟩ (fun d26 H locs h hP hD hS => ?_)
    have hP : va_P G.1 vwCl (wD G g d26 ++ (wQ G a q20 ++ (wO G a b ae g az o21 ++ (wQ G ae tq23 ++ (wZ G az zs24 ++ R))))) _ := hP
    have hD : va_D A (wD G g d26 ++ (wQ G a q20 ++ (wO G a b ae g az o21 ++ (wQ G ae tq23 ++ (wZ G az zs24 ++ R))))) := hD
    obtain ⟨hP, hD⟩ := q_perm ((((List.perm_append_comm_assoc _ _ _).append_left _).trans (List.perm_append_comm_assoc _ _ _))).symm hP hD
    have hP : va_P G.1 vwCl (wQ G a q20 ++ (wO G a b ae g az o21 ++ (wD G g d26 ++ (wQ G ae tq23 ++ (wZ G az zs24 ++ R))))) _ := hP
    have hD : va_D A (wQ G a q20 ++ (wO G a b ae g az o21 ++ (wD G g d26 ++ (wQ G ae tq23 ++ (wZ G az zs24 ++ R))))) := hD
    obtain ⟨n27, h⟩ := h
    exact kX9_carryOut_b35 hx hb hml hown hts hA hKn hret n27 q20 o21 d26 tq23 zs24 (0 : Int32) _ _ _ h hP hD hS (lv_sub hl [1, 0] rfl)
  · have h := h.2 c1
    refine lv_bipush (v := (-3 : Int32)) hx hb dX9_carryOut_12 (by decide) ?_
    exact hret _ _ _ _ _ _ _ _ _ _ h hP hD hS dX9_carryOut_14
