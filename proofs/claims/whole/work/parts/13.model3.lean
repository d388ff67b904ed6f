abbrev rmX10_ofFace : Room := { frames := 2, cells := 0, slots := 0, locals := 45 }
theorem lX10_ofFace_f32 : Cond.fieldLink RX10 32 "QuarryBlendsModel" "thrown" "I" ∈ wsX10_ofFace := by decide +kernel
theorem lX10_ofFace_f7 : Cond.fieldLink RX10 7 "QuarryBlendsModel" "s" "[I" ∈ wsX10_ofFace := by decide +kernel
theorem iX10_ofFace_X10 : ∀ w ∈ wsX100, w ∈ wsX10_ofFace := by decide +kernel
set_option maxHeartbeats 4000000 in
set_option maxRecDepth 100000 in
theorem mX10_ofFace (l : Launch) (G : qG) (k : Int32 → qS → Prop) (R : va_W) (a : Nat → Nat) (q : qS) (sz : Nat) (p0 : Int32) (p1 : Int32) : Met l yX10_ofFace wsX10_ofFace rmX10_ofFace (qPc G [.ref (a 0), .int p0, .int p1] (wM G a q ++ R) sz (wX10_ofFace k q p0 p1)) (qQi G (wM G a q ++ R) sz (fun (r : Int32) (u : qS) => k r u) (fun (u : qS) => wM G a u ++ R)) 0 0 (va_A (wM G a q ++ R) sz) := by
  refine Met.ofW (cc := cX10_ofFace) (maxL := 3) (ret := (some .int)) (by decide) rfl ?_
  intro p e s m args below meth c s₁ B hml hv
  obtain ⟨rfl, hsz, hP, hD0, hKn0, h⟩ := hv
  have hx := B.exec
  have hb := B.bytes
  have hr := B.returns
  have hts := atoms_spec (ws := wsX10_ofFace) B.pre
  have hown : s.vm.findClass RX10 = some m.cls := findClass_of_methodNamed B.named
  have hlocks := B.notSynchronized
  subst hsz
  have hD := hD0.self (sz := s.heap.size)
  generalize hAe : va_A (wM G a q ++ R) s.heap.size = A at hD hKn0 ⊢
  have hA : ∀ q : Nat, s.heap.size ≤ q → A q := fun q h => by rw [← hAe]; exact Or.inr h
  have hKn : qKn G A s s.heap := hKn0
  have hS : va_S A s.heap s.heap [] := va_S.rf
  have hret : ∀ (r : Int32) (q' : qS) (H : Heap) (locs : List Loc) (ls : Array Slot) (pc : Nat), k r q' → va_P G.1 vwCl (wM G a q' ++ R) H → va_D A (wM G a q' ++ R) → va_S A s.heap H locs → decode cX10_ofFace pc = .ok (.ireturn, 1) → W p l e rmX10_ofFace s m #[.ref (a 0), .int p0, .int p1] below meth c H locs 0 0 (MQ below (qQi G (wM G a q ++ R) s.heap.size (fun (r : Int32) (u : qS) => k r u) (fun (u : qS) => wM G a u ++ R)) #[.ref (a 0), .int p0, .int p1] s 0 0 A) (F0 m pc ls [.int r]) := fun r q' H locs ls pc hk hP hD hS hd => W.iret hx hb hr (fun t ht hW => q_ri (u := (q' : qS)) hAe hk hP hD hS ht) hS.2.2 hd
  have hl := lv_entry ([.ref (a 0), .int p0, .int p1]) (n := 3) (Nat.le_of_ble_eq_true rfl)
  rw [lg_entry_eq]
  generalize (lg_sl ([.ref (a 0), .int p0, .int p1]) ++ List.replicate (3 - (lg_sl ([.ref (a 0), .int p0, .int p1])).length) Slot.unset).toArray = ls at hl ⊢
  have hl : lv_has ls 3 [(0, .ref (a 0)), (1, .int p0), (2, .int p1)] := hl
  unfold wX10_ofFace at h
  show W p l e rmX10_ofFace s m #[.ref (a 0), .int p0, .int p1] below meth c s.heap [] 0 0 _ _
  refine lv_aload_n hx hb dX10_ofFace_0 rfl (lv_at hl 0 rfl) ?_
  refine lv_iconst (v := (0 : Int32)) hx hb dX10_ofFace_1 (by decide) ?_
  refine va_put (D := G.1) (ci := 10) (v := .int (0 : Int32)) (ty := .int) (C := RX10) (T := TX10) (N := 15) hx hb hts iX10_ofFace_X10 tyX10 tyX10_ok nmX10 hown hKn.k hP hD hS 0 rfl rfl 0 (by decide) (hts _ lX10_ofFace_f32) (fun _ h9 => h9) rfl (by decide +kernel) rfl rfl (Nat.le_of_ble_eq_true rfl) dX10_ofFace_2 (fun H locs hP hD hS => ?_)
  obtain ⟨q1, eq1⟩ : ∃ z : qS, z = up2 q 0 0 (0 : Int32) := ⟨_, rfl⟩
  have hP : va_P G.1 vwCl (wM G a q1 ++ R) H := by rw [eq1]; exact hP
  have hD : va_D A (wM G a q1 ++ R) := by rw [eq1]; exact hD
  have h := h q1 eq1
  refine lv_iload_n hx hb dX10_ofFace_5 rfl (lv_at hl 1 rfl) ?_
  refine lv_iconst (v := (0 : Int32)) hx hb dX10_ofFace_6 (by decide) ?_
  refine lv_aload_n hx hb dX10_ofFace_7 rfl (lv_at hl 0 rfl) ?_
  refine va_get (D := G.1) (ci := 10) (v := .ref (a 1)) (C := RX10) (T := TX10) (N := 15) hx hb hts iX10_ofFace_X10 hown hKn.k hP 0 rfl rfl 1 (by decide) (hts _ lX10_ofFace_f7) (fun _ h9 => h9) rfl dX10_ofFace_8 ?_
  refine lv_bipush (v := (7 : Int32)) hx hb dX10_ofFace_11 (by decide) ?_
  refine va_iald hx hb hKn.k hP 1 0 rfl rfl (by unfold vp_in; decide) dX10_ofFace_13 ?_
  refine lv_iconst (v := (1 : Int32)) hx hb dX10_ofFace_14 (by decide) ?_
  refine lv_isub hx hb dX10_ofFace_15 ?_
  refine qc_si (As := [.int p0, .int (0 : Int32), .int ((q1 1 7) - (1 : Int32))]) (rest := []) ⟨hx, hb, hml, hown, hts⟩ (mX10_in l G _ _ _ p0 (0 : Int32) ((q1 1 7) - (1 : Int32))) (cwS 3 hts gX10_ofFace_X10_in rfl rfl rfl (by decide +kernel) ⟨Nat.le_of_ble_eq_true rfl, Nat.le_of_ble_eq_true rfl⟩) hP hD hS hA hKn h rfl hl.1 rfl (Nat.le_of_ble_eq_true rfl) dX10_ofFace_16 ⟨Nat.zero_le _, Nat.zero_le _⟩ (fun r2 _ H locs h hP hD hS => ?_)
  have hP : va_P G.1 vwCl (wM G a q1 ++ R) H := hP
  have hD : va_D A (wM G a q1 ++ R) := hD
  refine lv_if_ne (tgt := 24) hx hb dX10_ofFace_19 (by decide) (fun c1 => ?_) (fun c1 => ?_)
  · have h := h.1 c1
    refine lv_iload_n hx hb dX10_ofFace_24 rfl (lv_at hl 2 rfl) ?_
    by_cases c0 : p1 = (0 : Int32)
    · refine lv_tableIn (tgt := 60) hx hb dX10_ofFace_25 (by rw [c0]; decide) (by rw [c0]; decide) (by rw [c0]; rfl) (by decide) ?_
      have h := (h.1) c0
      refine lv_aload_n hx hb dX10_ofFace_60 rfl (lv_at hl 0 rfl) ?_
      refine lv_iload_n hx hb dX10_ofFace_61 rfl (lv_at hl 1 rfl) ?_
      refine lv_iconst (v := (0 : Int32)) hx hb dX10_ofFace_62 (by decide) ?_
      refine qc_vi (As := [.int p0, .int (0 : Int32)]) (rest := []) ⟨hx, hb, hml, hown, hts⟩ (mX10_faceOf l G _ _ a q1 _ p0 (0 : Int32)) (cwV 2 hts gX10_ofFace_X10_faceOf rfl rfl rfl (by decide +kernel) ⟨Nat.le_of_ble_eq_true rfl, Nat.le_of_ble_eq_true rfl⟩) hP hD hS hA hKn 0 10 rfl rfl rfl h rfl hl.1 rfl (Nat.le_of_ble_eq_true rfl) dX10_ofFace_63 ⟨Nat.zero_le _, Nat.zero_le _⟩ (fun r3 q4 H locs h hP hD hS => ?_)
      have hP : va_P G.1 vwCl (wM G a q4 ++ R) H := hP
      have hD : va_D A (wM G a q4 ++ R) := hD
      exact hret _ _ _ _ _ _ h hP hD hS dX10_ofFace_66
    · skip
      by_cases c1 : p1 = (1 : Int32)
      · refine lv_tableIn (tgt := 67) hx hb dX10_ofFace_25 (by rw [c1]; decide) (by rw [c1]; decide) (by rw [c1]; rfl) (by decide) ?_
        have h := (h.2.1) c1
        refine lv_aload_n hx hb dX10_ofFace_67 rfl (lv_at hl 0 rfl) ?_
        refine lv_iload_n hx hb dX10_ofFace_68 rfl (lv_at hl 1 rfl) ?_
        refine lv_iconst (v := (1 : Int32)) hx hb dX10_ofFace_69 (by decide) ?_
        refine qc_vi (As := [.int p0, .int (1 : Int32)]) (rest := []) ⟨hx, hb, hml, hown, hts⟩ (mX10_faceOf l G _ _ a q1 _ p0 (1 : Int32)) (cwV 2 hts gX10_ofFace_X10_faceOf rfl rfl rfl (by decide +kernel) ⟨Nat.le_of_ble_eq_true rfl, Nat.le_of_ble_eq_true rfl⟩) hP hD hS hA hKn 0 10 rfl rfl rfl h rfl hl.1 rfl (Nat.le_of_ble_eq_true rfl) dX10_ofFace_70 ⟨Nat.zero_le _, Nat.zero_le _⟩ (fun r5 q6 H locs h hP hD hS => ?_)
        have hP : va_P G.1 vwCl (wM G a q6 ++ R) H := hP
        have hD : va_D A (wM G a q6 ++ R) := hD
        exact hret _ _ _ _ _ _ h hP hD hS dX10_ofFace_73
      · skip
        by_cases c2 : p1 = (2 : Int32)
        · refine lv_tableIn (tgt := 74) hx hb dX10_ofFace_25 (by rw [c2]; decide) (by rw [c2]; decide) (by rw [c2]; rfl) (by decide) ?_
          have h := (h.2.2.1) c2
          refine lv_aload_n hx hb dX10_ofFace_74 rfl (lv_at hl 0 rfl) ?_
          refine lv_iload_n hx hb dX10_ofFace_75 rfl (lv_at hl 1 rfl) ?_
          refine lv_iconst (v := (2 : Int32)) hx hb dX10_ofFace_76 (by decide) ?_
          refine qc_vi (As := [.int p0, .int (2 : Int32)]) (rest := []) ⟨hx, hb, hml, hown, hts⟩ (mX10_faceOf l G _ _ a q1 _ p0 (2 : Int32)) (cwV 2 hts gX10_ofFace_X10_faceOf rfl rfl rfl (by decide +kernel) ⟨Nat.le_of_ble_eq_true rfl, Nat.le_of_ble_eq_true rfl⟩) hP hD hS hA hKn 0 10 rfl rfl rfl h rfl hl.1 rfl (Nat.le_of_ble_eq_true rfl) dX10_ofFace_77 ⟨Nat.zero_le _, Nat.zero_le _⟩ (fun r7 q8 H locs h hP hD hS => ?_)
          have hP : va_P G.1 vwCl (wM G a q8 ++ R) H := hP
          have hD : va_D A (wM G a q8 ++ R) := hD
          exact hret _ _ _ _ _ _ h hP hD hS dX10_ofFace_80
        · skip
          by_cases c3 : p1 = (3 : Int32)
          · refine lv_tableIn (tgt := 81) hx hb dX10_ofFace_25 (by rw [c3]; decide) (by rw [c3]; decide) (by rw [c3]; rfl) (by decide) ?_
            have h := (h.2.2.2.1) c3
            refine lv_aload_n hx hb dX10_ofFace_81 rfl (lv_at hl 0 rfl) ?_
            refine lv_iload_n hx hb dX10_ofFace_82 rfl (lv_at hl 1 rfl) ?_
            refine qc_vi (As := [.int p0]) (rest := []) ⟨hx, hb, hml, hown, hts⟩ (mX10_onWayFrom l G _ _ a q1 _ p0) (cwV 1 hts gX10_ofFace_X10_onWayFrom rfl rfl rfl (by decide +kernel) ⟨Nat.le_of_ble_eq_true rfl, Nat.le_of_ble_eq_true rfl⟩) hP hD hS hA hKn 0 10 rfl rfl rfl h rfl hl.1 rfl (Nat.le_of_ble_eq_true rfl) dX10_ofFace_83 ⟨Nat.zero_le _, Nat.zero_le _⟩ (fun r9 q10 H locs h hP hD hS => ?_)
            have hP : va_P G.1 vwCl (wM G a q10 ++ R) H := hP
            have hD : va_D A (wM G a q10 ++ R) := hD
            exact hret _ _ _ _ _ _ h hP hD hS dX10_ofFace_86
          · skip
            by_cases c4 : p1 = (4 : Int32)
            · refine lv_tableIn (tgt := 87) hx hb dX10_ofFace_25 (by rw [c4]; decide) (by rw [c4]; decide) (by rw [c4]; rfl) (by decide) ?_
              have h := (h.2.2.2.2.1) c4
              refine lv_aload_n hx hb dX10_ofFace_87 rfl (lv_at hl 0 rfl) ?_
              refine lv_iload_n hx hb dX10_ofFace_88 rfl (lv_at hl 1 rfl) ?_
              refine lv_iconst (v := (3 : Int32)) hx hb dX10_ofFace_89 (by decide) ?_
              refine qc_vi (As := [.int p0, .int (3 : Int32)]) (rest := []) ⟨hx, hb, hml, hown, hts⟩ (mX10_faceOf l G _ _ a q1 _ p0 (3 : Int32)) (cwV 2 hts gX10_ofFace_X10_faceOf rfl rfl rfl (by decide +kernel) ⟨Nat.le_of_ble_eq_true rfl, Nat.le_of_ble_eq_true rfl⟩) hP hD hS hA hKn 0 10 rfl rfl rfl h rfl hl.1 rfl (Nat.le_of_ble_eq_true rfl) dX10_ofFace_90 ⟨Nat.zero_le _, Nat.zero_le _⟩ (fun r11 q12 H locs h hP hD hS => ?_)
              have hP : va_P G.1 vwCl (wM G a q12 ++ R) H := hP
              have hD : va_D A (wM G a q12 ++ R) := hD
              exact hret _ _ _ _ _ _ h hP hD hS dX10_ofFace_93
            · skip
              refine lv_tableOut (tgt := 94) hx hb dX10_ofFace_25 (by have gc0 : ¬ (p1).toInt = 0 := q_ti _ (0) c0; have gc1 : ¬ (p1).toInt = 1 := q_ti _ (1) c1; have gc2 : ¬ (p1).toInt = 2 := q_ti _ (2) c2; have gc3 : ¬ (p1).toInt = 3 := q_ti _ (3) c3; have gc4 : ¬ (p1).toInt = 4 := q_ti _ (4) c4; omega) (by decide) ?_
              have h := h.2.2.2.2.2 c0 c1 c2 c3 c4
              refine lv_bipush (v := (-2 : Int32)) hx hb dX10_ofFace_94 (by decide) ?_
              exact hret _ _ _ _ _ _ h hP hD hS dX10_ofFace_96
  · have h := h.2 c1
    refine lv_iconst (v := (-1 : Int32)) hx hb dX10_ofFace_22 (by decide) ?_
    exact hret _ _ _ _ _ _ h hP hD hS dX10_ofFace_23
abbrev rmX10_truck : Room := { frames := 1, cells := 0, slots := 0, locals := 22 }
theorem lX10_truck_f32 : Cond.fieldLink RX10 32 "QuarryBlendsModel" "thrown" "I" ∈ wsX10_truck := by decide +kernel
theorem lX10_truck_f7 : Cond.fieldLink RX10 7 "QuarryBlendsModel" "s" "[I" ∈ wsX10_truck := by decide +kernel
theorem iX10_truck_X10 : ∀ w ∈ wsX100, w ∈ wsX10_truck := by decide +kernel
set_option maxHeartbeats 4000000 in
set_option maxRecDepth 100000 in
theorem kX10_truck_b73 {p : Program} {l : Launch} {e : Env} {s : State} {m : MethodId} {args : Array Value} {below : List Frame} {meth : Method} {c : Code} {G : qG} {A : Nat → Prop} {Qf : State → Prop} {R : va_W} {a : Nat → Nat} {k : Int32 → qS → Prop} (hx : p.tables.exec = Jvm.exec) (hb : c.code = cX10_truck) (hml : c.maxLocals = 3) (hown : s.vm.findClass RX10 = some m.cls) (hts : ∀ w ∈ wsX10_truck, w.before args s = true) (hA : ∀ q : Nat, s.heap.size ≤ q → A q) (hKn : qKn G A s s.heap) (hret : ∀ (r : Int32) (q : qS) (H : Heap) (locs : List Loc) (ls : Array Slot) (pc : Nat), k r q → va_P G.1 vwCl (wM G a q ++ R) H → va_D A (wM G a q ++ R) → va_S A s.heap H locs → decode cX10_truck pc = .ok (.ireturn, 1) → W p l e rmX10_truck s m args below meth c H locs 0 0 Qf (F0 m pc ls [.int r])) : ∀ (q : qS) (z0 : Int32) (H : Heap) (locs : List Loc) (ls : Array Slot), wX10_truck_b73 k q z0 → va_P G.1 vwCl (wM G a q ++ R) H → va_D A (wM G a q ++ R) → va_S A s.heap H locs → lv_has ls 3 [] → W p l e rmX10_truck s m args below meth c H locs 0 0 Qf (F0 m 73 ls [.int z0]) := by
  intro q z0 H locs ls h hP hD hS hl
  unfold wX10_truck_b73 at h
  exact hret _ _ _ _ _ _ h hP hD hS dX10_truck_73
set_option maxHeartbeats 4000000 in
set_option maxRecDepth 100000 in
theorem kX10_truck_b52 {p : Program} {l : Launch} {e : Env} {s : State} {m : MethodId} {args : Array Value} {below : List Frame} {meth : Method} {c : Code} {G : qG} {A : Nat → Prop} {Qf : State → Prop} {R : va_W} {a : Nat → Nat} {k : Int32 → qS → Prop} (hx : p.tables.exec = Jvm.exec) (hb : c.code = cX10_truck) (hml : c.maxLocals = 3) (hown : s.vm.findClass RX10 = some m.cls) (hts : ∀ w ∈ wsX10_truck, w.before args s = true) (hA : ∀ q : Nat, s.heap.size ≤ q → A q) (hKn : qKn G A s s.heap) (hret : ∀ (r : Int32) (q : qS) (H : Heap) (locs : List Loc) (ls : Array Slot) (pc : Nat), k r q → va_P G.1 vwCl (wM G a q ++ R) H → va_D A (wM G a q ++ R) → va_S A s.heap H locs → decode cX10_truck pc = .ok (.ireturn, 1) → W p l e rmX10_truck s m args below meth c H locs 0 0 Qf (F0 m pc ls [.int r])) : ∀ (q : qS) (x1 : Int32) (x2 : Int32) (H : Heap) (locs : List Loc) (ls : Array Slot), wX10_truck_b52 k q x1 x2 → va_P G.1 vwCl (wM G a q ++ R) H → va_D A (wM G a q ++ R) → va_S A s.heap H locs → lv_has ls 3 [(0, .ref (a 0)), (1, .int x1), (2, .int x2)] → W p l e rmX10_truck s m args below meth c H locs 0 0 Qf (F0 m 52 ls []) := by
  intro q x1 x2 H locs ls h hP hD hS hl
  unfold wX10_truck_b52 at h
  refine lv_iload_n hx hb dX10_truck_52 rfl (lv_at hl 2 rfl) ?_
  refine lv_if_ne (tgt := 67) hx hb dX10_truck_53 (by decide) (fun c1 => ?_) (fun c1 => ?_)
  · have h := h.1 c1
    refine lv_aload_n hx hb dX10_truck_67 rfl (lv_at hl 0 rfl) ?_
    refine lv_iload_n hx hb dX10_truck_68 rfl (lv_at hl 1 rfl) ?_
    refine lv_iload_n hx hb dX10_truck_69 rfl (lv_at hl 2 rfl) ?_
    refine qc_vi (As := [.int x1, .int x2]) (rest := []) ⟨hx, hb, hml, hown, hts⟩ (mX10_truckOf l G _ _ a q _ x1 x2) (cwV 2 hts gX10_truck_X10_truckOf rfl rfl rfl (by decide +kernel) ⟨Nat.le_of_ble_eq_true rfl, Nat.le_of_ble_eq_true rfl⟩) hP hD hS hA hKn 0 10 rfl rfl rfl h rfl hl.1 rfl (Nat.le_of_ble_eq_true rfl) dX10_truck_70 ⟨Nat.zero_le _, Nat.zero_le _⟩ (fun r1 q2 H locs h hP hD hS => ?_)
    have hP : va_P G.1 vwCl (wM G a q2 ++ R) H := hP
    have hD : va_D A (wM G a q2 ++ R) := hD
    exact kX10_truck_b73 hx hb hml hown hts hA hKn hret q2 r1 _ _ _ h hP hD hS (lv_sub hl [] rfl)
  · have h := h.2 c1
    refine lv_aload_n hx hb dX10_truck_56 rfl (lv_at hl 0 rfl) ?_
    refine lv_iload_n hx hb dX10_truck_57 rfl (lv_at hl 1 rfl) ?_
    refine lv_iconst (v := (0 : Int32)) hx hb dX10_truck_58 (by decide) ?_
    refine qc_vi (As := [.int x1, .int (0 : Int32)]) (rest := []) ⟨hx, hb, hml, hown, hts⟩ (mX10_truckOf l G _ _ a q _ x1 (0 : Int32)) (cwV 2 hts gX10_truck_X10_truckOf rfl rfl rfl (by decide +kernel) ⟨Nat.le_of_ble_eq_true rfl, Nat.le_of_ble_eq_true rfl⟩) hP hD hS hA hKn 0 10 rfl rfl rfl h rfl hl.1 rfl (Nat.le_of_ble_eq_true rfl) dX10_truck_59 ⟨Nat.zero_le _, Nat.zero_le _⟩ (fun r3 q4 H locs h hP hD hS => ?_)
    have hP : va_P G.1 vwCl (wM G a q4 ++ R) H := hP
    have hD : va_D A (wM G a q4 ++ R) := hD
    refine lv_iconst (v := (1 : Int32)) hx hb dX10_truck_62 (by decide) ?_
    refine lv_isub hx hb dX10_truck_63 ?_
    refine lv_goto (tgt := 73) hx hb dX10_truck_64 (by decide) ?_
    exact kX10_truck_b73 hx hb hml hown hts hA hKn hret q4 (r3 - (1 : Int32)) _ _ _ h hP hD hS (lv_sub hl [] rfl)
set_option maxHeartbeats 4000000 in
set_option maxRecDepth 100000 in
theorem mX10_truck (l : Launch) (G : qG) (k : Int32 → qS → Prop) (R : va_W) (a : Nat → Nat) (q : qS) (sz : Nat) (p0 : Int32) (p1 : Int32) : Met l yX10_truck wsX10_truck rmX10_truck (qPc G [.ref (a 0), .int p0, .int p1] (wM G a q ++ R) sz (wX10_truck k q p0 p1)) (qQi G (wM G a q ++ R) sz (fun (r : Int32) (u : qS) => k r u) (fun (u : qS) => wM G a u ++ R)) 0 0 (va_A (wM G a q ++ R) sz) := by
  refine Met.ofW (cc := cX10_truck) (maxL := 3) (ret := (some .int)) (by decide) rfl ?_
  intro p e s m args below meth c s₁ B hml hv
  obtain ⟨rfl, hsz, hP, hD0, hKn0, h⟩ := hv
  have hx := B.exec
  have hb := B.bytes
  have hr := B.returns
  have hts := atoms_spec (ws := wsX10_truck) B.pre
  have hown : s.vm.findClass RX10 = some m.cls := findClass_of_methodNamed B.named
  have hlocks := B.notSynchronized
  subst hsz
  have hD := hD0.self (sz := s.heap.size)
  generalize hAe : va_A (wM G a q ++ R) s.heap.size = A at hD hKn0 ⊢
  have hA : ∀ q : Nat, s.heap.size ≤ q → A q := fun q h => by rw [← hAe]; exact Or.inr h
  have hKn : qKn G A s s.heap := hKn0
  have hS : va_S A s.heap s.heap [] := va_S.rf
  have hret : ∀ (r : Int32) (q' : qS) (H : Heap) (locs : List Loc) (ls : Array Slot) (pc : Nat), k r q' → va_P G.1 vwCl (wM G a q' ++ R) H → va_D A (wM G a q' ++ R) → va_S A s.heap H locs → decode cX10_truck pc = .ok (.ireturn, 1) → W p l e rmX10_truck s m #[.ref (a 0), .int p0, .int p1] below meth c H locs 0 0 (MQ below (qQi G (wM G a q ++ R) s.heap.size (fun (r : Int32) (u : qS) => k r u) (fun (u : qS) => wM G a u ++ R)) #[.ref (a 0), .int p0, .int p1] s 0 0 A) (F0 m pc ls [.int r]) := fun r q' H locs ls pc hk hP hD hS hd => W.iret hx hb hr (fun t ht hW => q_ri (u := (q' : qS)) hAe hk hP hD hS ht) hS.2.2 hd
  have hl := lv_entry ([.ref (a 0), .int p0, .int p1]) (n := 3) (Nat.le_of_ble_eq_true rfl)
  rw [lg_entry_eq]
  generalize (lg_sl ([.ref (a 0), .int p0, .int p1]) ++ List.replicate (3 - (lg_sl ([.ref (a 0), .int p0, .int p1])).length) Slot.unset).toArray = ls at hl ⊢
  have hl : lv_has ls 3 [(0, .ref (a 0)), (1, .int p0), (2, .int p1)] := hl
  unfold wX10_truck at h
  show W p l e rmX10_truck s m #[.ref (a 0), .int p0, .int p1] below meth c s.heap [] 0 0 _ _
  refine lv_aload_n hx hb dX10_truck_0 rfl (lv_at hl 0 rfl) ?_
  refine lv_iconst (v := (0 : Int32)) hx hb dX10_truck_1 (by decide) ?_
  refine va_put (D := G.1) (ci := 10) (v := .int (0 : Int32)) (ty := .int) (C := RX10) (T := TX10) (N := 15) hx hb hts iX10_truck_X10 tyX10 tyX10_ok nmX10 hown hKn.k hP hD hS 0 rfl rfl 0 (by decide) (hts _ lX10_truck_f32) (fun _ h9 => h9) rfl (by decide +kernel) rfl rfl (Nat.le_of_ble_eq_true rfl) dX10_truck_2 (fun H locs hP hD hS => ?_)
  obtain ⟨q5, eq5⟩ : ∃ z : qS, z = up2 q 0 0 (0 : Int32) := ⟨_, rfl⟩
  have hP : va_P G.1 vwCl (wM G a q5 ++ R) H := by rw [eq5]; exact hP
  have hD : va_D A (wM G a q5 ++ R) := by rw [eq5]; exact hD
  have h := h q5 eq5
  refine lv_iload_n hx hb dX10_truck_5 rfl (lv_at hl 1 rfl) ?_
  refine lv_iconst (v := (0 : Int32)) hx hb dX10_truck_6 (by decide) ?_
  refine lv_aload_n hx hb dX10_truck_7 rfl (lv_at hl 0 rfl) ?_
  refine va_get (D := G.1) (ci := 10) (v := .ref (a 1)) (C := RX10) (T := TX10) (N := 15) hx hb hts iX10_truck_X10 hown hKn.k hP 0 rfl rfl 1 (by decide) (hts _ lX10_truck_f7) (fun _ h9 => h9) rfl dX10_truck_8 ?_
  refine lv_iconst (v := (0 : Int32)) hx hb dX10_truck_11 (by decide) ?_
  refine va_iald hx hb hKn.k hP 1 0 rfl rfl (by unfold vp_in; decide) dX10_truck_12 ?_
  refine lv_iconst (v := (1 : Int32)) hx hb dX10_truck_13 (by decide) ?_
  refine lv_isub hx hb dX10_truck_14 ?_
  refine qc_si (As := [.int p0, .int (0 : Int32), .int ((q5 1 0) - (1 : Int32))]) (rest := []) ⟨hx, hb, hml, hown, hts⟩ (mX10_in l G _ _ _ p0 (0 : Int32) ((q5 1 0) - (1 : Int32))) (cwS 3 hts gX10_truck_X10_in rfl rfl rfl (by decide +kernel) ⟨Nat.le_of_ble_eq_true rfl, Nat.le_of_ble_eq_true rfl⟩) hP hD hS hA hKn h rfl hl.1 rfl (Nat.le_of_ble_eq_true rfl) dX10_truck_15 ⟨Nat.zero_le _, Nat.zero_le _⟩ (fun r6 _ H locs h hP hD hS => ?_)
  have hP : va_P G.1 vwCl (wM G a q5 ++ R) H := hP
  have hD : va_D A (wM G a q5 ++ R) := hD
  refine lv_if_ne (tgt := 23) hx hb dX10_truck_18 (by decide) (fun c1 => ?_) (fun c1 => ?_)
  · have h := h.1 c1
    refine lv_iload_n hx hb dX10_truck_23 rfl (lv_at hl 2 rfl) ?_
    refine lv_iconst (v := (0 : Int32)) hx hb dX10_truck_24 (by decide) ?_
    refine lv_iconst (v := (3 : Int32)) hx hb dX10_truck_25 (by decide) ?_
    refine qc_si (As := [.int p1, .int (0 : Int32), .int (3 : Int32)]) (rest := []) ⟨hx, hb, hml, hown, hts⟩ (mX10_in l G _ _ _ p1 (0 : Int32) (3 : Int32)) (cwS 3 hts gX10_truck_X10_in rfl rfl rfl (by decide +kernel) ⟨Nat.le_of_ble_eq_true rfl, Nat.le_of_ble_eq_true rfl⟩) hP hD hS hA hKn h rfl hl.1 rfl (Nat.le_of_ble_eq_true rfl) dX10_truck_26 ⟨Nat.zero_le _, Nat.zero_le _⟩ (fun r7 _ H locs h hP hD hS => ?_)
    have hP : va_P G.1 vwCl (wM G a q5 ++ R) H := hP
    have hD : va_D A (wM G a q5 ++ R) := hD
    refine lv_if_ne (tgt := 35) hx hb dX10_truck_29 (by decide) (fun c1 => ?_) (fun c1 => ?_)
    · have h := h.1 c1
      refine lv_iload_n hx hb dX10_truck_35 rfl (lv_at hl 2 rfl) ?_
      refine lv_iconst (v := (3 : Int32)) hx hb dX10_truck_36 (by decide) ?_
      refine lv_icmp_ge (tgt := 52) hx hb dX10_truck_37 (by decide) (fun c1 => ?_) (fun c1 => ?_)
      · have h := h.1 c1
        exact kX10_truck_b52 hx hb hml hown hts hA hKn hret q5 p0 p1 _ _ _ h hP hD hS (lv_sub hl [0, 1, 2] rfl)
      · have h := h.2 c1
        refine lv_aload_n hx hb dX10_truck_40 rfl (lv_at hl 0 rfl) ?_
        refine lv_iload_n hx hb dX10_truck_41 rfl (lv_at hl 1 rfl) ?_
        refine lv_iconst (v := (0 : Int32)) hx hb dX10_truck_42 (by decide) ?_
        refine qc_vi (As := [.int p0, .int (0 : Int32)]) (rest := []) ⟨hx, hb, hml, hown, hts⟩ (mX10_truckOf l G _ _ a q5 _ p0 (0 : Int32)) (cwV 2 hts gX10_truck_X10_truckOf rfl rfl rfl (by decide +kernel) ⟨Nat.le_of_ble_eq_true rfl, Nat.le_of_ble_eq_true rfl⟩) hP hD hS hA hKn 0 10 rfl rfl rfl h rfl hl.1 rfl (Nat.le_of_ble_eq_true rfl) dX10_truck_43 ⟨Nat.zero_le _, Nat.zero_le _⟩ (fun r8 q9 H locs h hP hD hS => ?_)
        have hP : va_P G.1 vwCl (wM G a q9 ++ R) H := hP
        have hD : va_D A (wM G a q9 ++ R) := hD
        refine lv_if_ne (tgt := 52) hx hb dX10_truck_46 (by decide) (fun c1 => ?_) (fun c1 => ?_)
        · have h := h.1 c1
          exact kX10_truck_b52 hx hb hml hown hts hA hKn hret q9 p0 p1 _ _ _ h hP hD hS (lv_sub hl [0, 1, 2] rfl)
        · have h := h.2 c1
          refine lv_bipush (v := (-6 : Int32)) hx hb dX10_truck_49 (by decide) ?_
          exact hret _ _ _ _ _ _ h hP hD hS dX10_truck_51
    · have h := h.2 c1
      refine lv_bipush (v := (-2 : Int32)) hx hb dX10_truck_32 (by decide) ?_
      exact hret _ _ _ _ _ _ h hP hD hS dX10_truck_34
  · have h := h.2 c1
    refine lv_iconst (v := (-1 : Int32)) hx hb dX10_truck_21 (by decide) ?_
    exact hret _ _ _ _ _ _ h hP hD hS dX10_truck_22
abbrev rmX10_ofContract : Room := { frames := 3, cells := 0, slots := 0, locals := 72 }
theorem lX10_ofContract_f32 : Cond.fieldLink RX10 32 "QuarryBlendsModel" "thrown" "I" ∈ wsX10_ofContract := by decide +kernel
theorem lX10_ofContract_f46 : Cond.fieldLink RX10 46 "QuarryBlendsModel" "fine" "I" ∈ wsX10_ofContract := by decide +kernel
theorem lX10_ofContract_f49 : Cond.fieldLink RX10 49 "QuarryBlendsModel" "coarse" "I" ∈ wsX10_ofContract := by decide +kernel
theorem iX10_ofContract_X10 : ∀ w ∈ wsX100, w ∈ wsX10_ofContract := by decide +kernel
set_option maxHeartbeats 4000000 in
set_option maxRecDepth 100000 in
theorem kX10_ofContract_b83 {p : Program} {l : Launch} {e : Env} {s : State} {m : MethodId} {args : Array Value} {below : List Frame} {meth : Method} {c : Code} {G : qG} {A : Nat → Prop} {Qf : State → Prop} {R : va_W} {a : Nat → Nat} {k : Int32 → qS → Prop} (hx : p.tables.exec = Jvm.exec) (hb : c.code = cX10_ofContract) (hml : c.maxLocals = 4) (hown : s.vm.findClass RX10 = some m.cls) (hts : ∀ w ∈ wsX10_ofContract, w.before args s = true) (hA : ∀ q : Nat, s.heap.size ≤ q → A q) (hKn : qKn G A s s.heap) (hret : ∀ (r : Int32) (q : qS) (H : Heap) (locs : List Loc) (ls : Array Slot) (pc : Nat), k r q → va_P G.1 vwCl (wM G a q ++ R) H → va_D A (wM G a q ++ R) → va_S A s.heap H locs → decode cX10_ofContract pc = .ok (.ireturn, 1) → W p l e rmX10_ofContract s m args below meth c H locs 0 0 Qf (F0 m pc ls [.int r])) : ∀ (q : qS) (z0 : Int32) (H : Heap) (locs : List Loc) (ls : Array Slot), wX10_ofContract_b83 k q z0 → va_P G.1 vwCl (wM G a q ++ R) H → va_D A (wM G a q ++ R) → va_S A s.heap H locs → lv_has ls 4 [] → W p l e rmX10_ofContract s m args below meth c H locs 0 0 Qf (F0 m 83 ls [.int z0]) := by
  intro q z0 H locs ls h hP hD hS hl
  unfold wX10_ofContract_b83 at h
  exact hret _ _ _ _ _ _ h hP hD hS dX10_ofContract_83
set_option maxHeartbeats 4000000 in
set_option maxRecDepth 100000 in
theorem mX10_ofContract (l : Launch) (G : qG) (k : Int32 → qS → Prop) (R : va_W) (a : Nat → Nat) (q : qS) (sz : Nat) (p0 : Int32) (p1 : Int32) : Met l yX10_ofContract wsX10_ofContract rmX10_ofContract (qPc G [.ref (a 0), .int p0, .int p1] (wM G a q ++ R) sz (wX10_ofContract k q p0 p1)) (qQi G (wM G a q ++ R) sz (fun (r : Int32) (u : qS) => k r u) (fun (u : qS) => wM G a u ++ R)) 0 0 (va_A (wM G a q ++ R) sz) := by
  refine Met.ofW (cc := cX10_ofContract) (maxL := 4) (ret := (some .int)) (by decide) rfl ?_
  intro p e s m args below meth c s₁ B hml hv
  obtain ⟨rfl, hsz, hP, hD0, hKn0, h⟩ := hv
  have hx := B.exec
  have hb := B.bytes
  have hr := B.returns
  have hts := atoms_spec (ws := wsX10_ofContract) B.pre
  have hown : s.vm.findClass RX10 = some m.cls := findClass_of_methodNamed B.named
  have hlocks := B.notSynchronized
  subst hsz
  have hD := hD0.self (sz := s.heap.size)
  generalize hAe : va_A (wM G a q ++ R) s.heap.size = A at hD hKn0 ⊢
  have hA : ∀ q : Nat, s.heap.size ≤ q → A q := fun q h => by rw [← hAe]; exact Or.inr h
  have hKn : qKn G A s s.heap := hKn0
  have hS : va_S A s.heap s.heap [] := va_S.rf
  have hret : ∀ (r : Int32) (q' : qS) (H : Heap) (locs : List Loc) (ls : Array Slot) (pc : Nat), k r q' → va_P G.1 vwCl (wM G a q' ++ R) H → va_D A (wM G a q' ++ R) → va_S A s.heap H locs → decode cX10_ofContract pc = .ok (.ireturn, 1) → W p l e rmX10_ofContract s m #[.ref (a 0), .int p0, .int p1] below meth c H locs 0 0 (MQ below (qQi G (wM G a q ++ R) s.heap.size (fun (r : Int32) (u : qS) => k r u) (fun (u : qS) => wM G a u ++ R)) #[.ref (a 0), .int p0, .int p1] s 0 0 A) (F0 m pc ls [.int r]) := fun r q' H locs ls pc hk hP hD hS hd => W.iret hx hb hr (fun t ht hW => q_ri (u := (q' : qS)) hAe hk hP hD hS ht) hS.2.2 hd
  have hl := lv_entry ([.ref (a 0), .int p0, .int p1]) (n := 4) (Nat.le_of_ble_eq_true rfl)
  rw [lg_entry_eq]
  generalize (lg_sl ([.ref (a 0), .int p0, .int p1]) ++ List.replicate (4 - (lg_sl ([.ref (a 0), .int p0, .int p1])).length) Slot.unset).toArray = ls at hl ⊢
  have hl : lv_has ls 4 [(0, .ref (a 0)), (1, .int p0), (2, .int p1)] := hl
  unfold wX10_ofContract at h
  show W p l e rmX10_ofContract s m #[.ref (a 0), .int p0, .int p1] below meth c s.heap [] 0 0 _ _
  refine lv_aload_n hx hb dX10_ofContract_0 rfl (lv_at hl 0 rfl) ?_
  refine lv_iconst (v := (0 : Int32)) hx hb dX10_ofContract_1 (by decide) ?_
  refine va_put (D := G.1) (ci := 10) (v := .int (0 : Int32)) (ty := .int) (C := RX10) (T := TX10) (N := 15) hx hb hts iX10_ofContract_X10 tyX10 tyX10_ok nmX10 hown hKn.k hP hD hS 0 rfl rfl 0 (by decide) (hts _ lX10_ofContract_f32) (fun _ h9 => h9) rfl (by decide +kernel) rfl rfl (Nat.le_of_ble_eq_true rfl) dX10_ofContract_2 (fun H locs hP hD hS => ?_)
  obtain ⟨q1, eq1⟩ : ∃ z : qS, z = up2 q 0 0 (0 : Int32) := ⟨_, rfl⟩
  have hP : va_P G.1 vwCl (wM G a q1 ++ R) H := by rw [eq1]; exact hP
  have hD : va_D A (wM G a q1 ++ R) := by rw [eq1]; exact hD
  have h := h q1 eq1
  refine lv_aload_n hx hb dX10_ofContract_5 rfl (lv_at hl 0 rfl) ?_
  refine lv_iload_n hx hb dX10_ofContract_6 rfl (lv_at hl 1 rfl) ?_
  refine qc_vi (As := [.int p0]) (rest := []) ⟨hx, hb, hml, hown, hts⟩ (mX10_isContract l G _ _ a q1 _ p0) (cwV 1 hts gX10_ofContract_X10_isContract rfl rfl rfl (by decide +kernel) ⟨Nat.le_of_ble_eq_true rfl, Nat.le_of_ble_eq_true rfl⟩) hP hD hS hA hKn 0 10 rfl rfl rfl h rfl hl.1 rfl (Nat.le_of_ble_eq_true rfl) dX10_ofContract_7 ⟨Nat.zero_le _, Nat.zero_le _⟩ (fun r2 q3 H locs h hP hD hS => ?_)
  have hP : va_P G.1 vwCl (wM G a q3 ++ R) H := hP
  have hD : va_D A (wM G a q3 ++ R) := hD
  refine lv_if_ne (tgt := 15) hx hb dX10_ofContract_10 (by decide) (fun c1 => ?_) (fun c1 => ?_)
  · have h := h.1 c1
    refine lv_iload_n hx hb dX10_ofContract_15 rfl (lv_at hl 2 rfl) ?_
    refine lv_iconst (v := (0 : Int32)) hx hb dX10_ofContract_16 (by decide) ?_
    refine lv_bipush (v := (8 : Int32)) hx hb dX10_ofContract_17 (by decide) ?_
    refine qc_si (As := [.int p1, .int (0 : Int32), .int (8 : Int32)]) (rest := []) ⟨hx, hb, hml, hown, hts⟩ (mX10_in l G _ _ _ p1 (0 : Int32) (8 : Int32)) (cwS 3 hts gX10_ofContract_X10_in rfl rfl rfl (by decide +kernel) ⟨Nat.le_of_ble_eq_true rfl, Nat.le_of_ble_eq_true rfl⟩) hP hD hS hA hKn h rfl hl.1 rfl (Nat.le_of_ble_eq_true rfl) dX10_ofContract_19 ⟨Nat.zero_le _, Nat.zero_le _⟩ (fun r4 _ H locs h hP hD hS => ?_)
    have hP : va_P G.1 vwCl (wM G a q3 ++ R) H := hP
    have hD : va_D A (wM G a q3 ++ R) := hD
    refine lv_if_ne (tgt := 28) hx hb dX10_ofContract_22 (by decide) (fun c1 => ?_) (fun c1 => ?_)
    · have h := h.1 c1
      refine lv_iload_n hx hb dX10_ofContract_28 rfl (lv_at hl 2 rfl) ?_
      refine lv_bipush (v := (6 : Int32)) hx hb dX10_ofContract_29 (by decide) ?_
      refine lv_icmp_ge (tgt := 41) hx hb dX10_ofContract_31 (by decide) (fun c1 => ?_) (fun c1 => ?_)
      · have h := h.1 c1
        refine lv_aload_n hx hb dX10_ofContract_41 rfl (lv_at hl 0 rfl) ?_
        refine lv_iload_n hx hb dX10_ofContract_42 rfl (lv_at hl 1 rfl) ?_
        refine qc_vi (As := [.int p0]) (rest := []) ⟨hx, hb, hml, hown, hts⟩ (mX10_reason l G _ _ a q3 _ p0) (cwV 1 hts gX10_ofContract_X10_reason rfl rfl rfl (by decide +kernel) ⟨Nat.le_of_ble_eq_true rfl, Nat.le_of_ble_eq_true rfl⟩) hP hD hS hA hKn 0 10 rfl rfl rfl h rfl hl.1 rfl (Nat.le_of_ble_eq_true rfl) dX10_ofContract_43 ⟨Nat.zero_le _, Nat.zero_le _⟩ (fun r5 q6 H locs h hP hD hS => ?_)
        have hP : va_P G.1 vwCl (wM G a q6 ++ R) H := hP
        have hD : va_D A (wM G a q6 ++ R) := hD
        refine lv_istore_n (lv' := [(3, .int r5), (0, .ref (a 0)), (1, .int p0), (2, .int p1)]) hx hb dX10_ofContract_46 rfl hl (by decide) rfl (fun ls hl => ?_)
        refine lv_iload_n hx hb dX10_ofContract_47 rfl (lv_at hl 3 rfl) ?_
        refine lv_bipush (v := (6 : Int32)) hx hb dX10_ofContract_48 (by decide) ?_
        refine lv_icmp_ne (tgt := 57) hx hb dX10_ofContract_50 (by decide) (fun c1 => ?_) (fun c1 => ?_)
        · have h := h.1 c1
          refine lv_iload_n hx hb dX10_ofContract_57 rfl (lv_at hl 0 rfl) ?_
          refine lv_if_eq (tgt := 66) hx hb dX10_ofContract_58 (by decide) (fun c1 => ?_) (fun c1 => ?_)
          · have h := h.1 c1
            refine lv_iload_n hx hb dX10_ofContract_66 rfl (lv_at hl 3 rfl) ?_
            refine lv_bipush (v := (7 : Int32)) hx hb dX10_ofContract_67 (by decide) ?_
            refine lv_icmp_ne (tgt := 79) hx hb dX10_ofContract_69 (by decide) (fun c1 => ?_) (fun c1 => ?_)
            · have h := h.1 c1
              refine lv_aload_n hx hb dX10_ofContract_79 rfl (lv_at hl 1 rfl) ?_
              refine va_get (D := G.1) (ci := 10) (v := .int (q6 0 10)) (C := RX10) (T := TX10) (N := 15) hx hb hts iX10_ofContract_X10 hown hKn.k hP 0 rfl rfl 10 (by decide) (hts _ lX10_ofContract_f49) (fun _ h9 => h9) rfl dX10_ofContract_80 ?_
              exact kX10_ofContract_b83 hx hb hml hown hts hA hKn hret q6 (q6 0 10) _ _ _ h hP hD hS (lv_sub hl [] rfl)
            · have h := h.2 c1
              refine lv_aload_n hx hb dX10_ofContract_72 rfl (lv_at hl 1 rfl) ?_
              refine va_get (D := G.1) (ci := 10) (v := .int (q6 0 9)) (C := RX10) (T := TX10) (N := 15) hx hb hts iX10_ofContract_X10 hown hKn.k hP 0 rfl rfl 9 (by decide) (hts _ lX10_ofContract_f46) (fun _ h9 => h9) rfl dX10_ofContract_73 ?_
              refine lv_goto (tgt := 83) hx hb dX10_ofContract_76 (by decide) ?_
              exact kX10_ofContract_b83 hx hb hml hown hts hA hKn hret q6 (q6 0 9) _ _ _ h hP hD hS (lv_sub hl [] rfl)
          · have h := h.2 c1
            refine lv_bipush (v := (-6 : Int32)) hx hb dX10_ofContract_61 (by decide) ?_
            refine lv_goto (tgt := 83) hx hb dX10_ofContract_63 (by decide) ?_
            exact kX10_ofContract_b83 hx hb hml hown hts hA hKn hret q6 (-6 : Int32) _ _ _ h hP hD hS (lv_sub hl [] rfl)
        · have h := h.2 c1
          refine lv_iload_n hx hb dX10_ofContract_53 rfl (lv_at hl 0 rfl) ?_
          refine lv_goto (tgt := 83) hx hb dX10_ofContract_54 (by decide) ?_
          exact kX10_ofContract_b83 hx hb hml hown hts hA hKn hret q6 r5 _ _ _ h hP hD hS (lv_sub hl [] rfl)
      · have h := h.2 c1
        refine lv_aload_n hx hb dX10_ofContract_34 rfl (lv_at hl 0 rfl) ?_
        refine lv_iload_n hx hb dX10_ofContract_35 rfl (lv_at hl 1 rfl) ?_
        refine lv_iload_n hx hb dX10_ofContract_36 rfl (lv_at hl 2 rfl) ?_
        refine qc_vi (As := [.int p0, .int p1]) (rest := []) ⟨hx, hb, hml, hown, hts⟩ (mX10_asks l G _ _ a q3 _ p0 p1) (cwV 2 hts gX10_ofContract_X10_asks rfl rfl rfl (by decide +kernel) ⟨Nat.le_of_ble_eq_true rfl, Nat.le_of_ble_eq_true rfl⟩) hP hD hS hA hKn 0 10 rfl rfl rfl h rfl hl.1 rfl (Nat.le_of_ble_eq_true rfl) dX10_ofContract_37 ⟨Nat.zero_le _, Nat.zero_le _⟩ (fun r7 q8 H locs h hP hD hS => ?_)
        have hP : va_P G.1 vwCl (wM G a q8 ++ R) H := hP
        have hD : va_D A (wM G a q8 ++ R) := hD
        exact hret _ _ _ _ _ _ h hP hD hS dX10_ofContract_40
    · have h := h.2 c1
      refine lv_bipush (v := (-2 : Int32)) hx hb dX10_ofContract_25 (by decide) ?_
      exact hret _ _ _ _ _ _ h hP hD hS dX10_ofContract_27
  · have h := h.2 c1
    refine lv_iconst (v := (-1 : Int32)) hx hb dX10_ofContract_13 (by decide) ?_
    exact hret _ _ _ _ _ _ h hP hD hS dX10_ofContract_14
abbrev rmX10_bin : Room := { frames := 1, cells := 0, slots := 0, locals := 22 }
theorem lX10_bin_f32 : Cond.fieldLink RX10 32 "QuarryBlendsModel" "thrown" "I" ∈ wsX10_bin := by decide +kernel
theorem lX10_bin_f7 : Cond.fieldLink RX10 7 "QuarryBlendsModel" "s" "[I" ∈ wsX10_bin := by decide +kernel
theorem iX10_bin_X10 : ∀ w ∈ wsX100, w ∈ wsX10_bin := by decide +kernel
set_option maxHeartbeats 4000000 in
set_option maxRecDepth 100000 in
theorem kX10_bin_b27 {p : Program} {l : Launch} {e : Env} {s : State} {m : MethodId} {args : Array Value} {below : List Frame} {meth : Method} {c : Code} {G : qG} {A : Nat → Prop} {Qf : State → Prop} {R : va_W} {a : Nat → Nat} {k : Int32 → qS → Prop} (hx : p.tables.exec = Jvm.exec) (hb : c.code = cX10_bin) (hml : c.maxLocals = 2) (hown : s.vm.findClass RX10 = some m.cls) (hts : ∀ w ∈ wsX10_bin, w.before args s = true) (hA : ∀ q : Nat, s.heap.size ≤ q → A q) (hKn : qKn G A s s.heap) (hret : ∀ (r : Int32) (q : qS) (H : Heap) (locs : List Loc) (ls : Array Slot) (pc : Nat), k r q → va_P G.1 vwCl (wM G a q ++ R) H → va_D A (wM G a q ++ R) → va_S A s.heap H locs → decode cX10_bin pc = .ok (.ireturn, 1) → W p l e rmX10_bin s m args below meth c H locs 0 0 Qf (F0 m pc ls [.int r])) : ∀ (q : qS) (z0 : Int32) (H : Heap) (locs : List Loc) (ls : Array Slot), wX10_bin_b27 k q z0 → va_P G.1 vwCl (wM G a q ++ R) H → va_D A (wM G a q ++ R) → va_S A s.heap H locs → lv_has ls 2 [] → W p l e rmX10_bin s m args below meth c H locs 0 0 Qf (F0 m 27 ls [.int z0]) := by
  intro q z0 H locs ls h hP hD hS hl
  unfold wX10_bin_b27 at h
  exact hret _ _ _ _ _ _ h hP hD hS dX10_bin_27
set_option maxHeartbeats 4000000 in
set_option maxRecDepth 100000 in
theorem mX10_bin (l : Launch) (G : qG) (k : Int32 → qS → Prop) (R : va_W) (a : Nat → Nat) (q : qS) (sz : Nat) (p0 : Int32) : Met l yX10_bin wsX10_bin rmX10_bin (qPc G [.ref (a 0), .int p0] (wM G a q ++ R) sz (wX10_bin k q p0)) (qQi G (wM G a q ++ R) sz (fun (r : Int32) (u : qS) => k r u) (fun (u : qS) => wM G a u ++ R)) 0 0 (va_A (wM G a q ++ R) sz) := by
  refine Met.ofW (cc := cX10_bin) (maxL := 2) (ret := (some .int)) (by decide) rfl ?_
  intro p e s m args below meth c s₁ B hml hv
  obtain ⟨rfl, hsz, hP, hD0, hKn0, h⟩ := hv
  have hx := B.exec
  have hb := B.bytes
  have hr := B.returns
  have hts := atoms_spec (ws := wsX10_bin) B.pre
  have hown : s.vm.findClass RX10 = some m.cls := findClass_of_methodNamed B.named
  have hlocks := B.notSynchronized
  subst hsz
  have hD := hD0.self (sz := s.heap.size)
  generalize hAe : va_A (wM G a q ++ R) s.heap.size = A at hD hKn0 ⊢
  have hA : ∀ q : Nat, s.heap.size ≤ q → A q := fun q h => by rw [← hAe]; exact Or.inr h
  have hKn : qKn G A s s.heap := hKn0
  have hS : va_S A s.heap s.heap [] := va_S.rf
  have hret : ∀ (r : Int32) (q' : qS) (H : Heap) (locs : List Loc) (ls : Array Slot) (pc : Nat), k r q' → va_P G.1 vwCl (wM G a q' ++ R) H → va_D A (wM G a q' ++ R) → va_S A s.heap H locs → decode cX10_bin pc = .ok (.ireturn, 1) → W p l e rmX10_bin s m #[.ref (a 0), .int p0] below meth c H locs 0 0 (MQ below (qQi G (wM G a q ++ R) s.heap.size (fun (r : Int32) (u : qS) => k r u) (fun (u : qS) => wM G a u ++ R)) #[.ref (a 0), .int p0] s 0 0 A) (F0 m pc ls [.int r]) := fun r q' H locs ls pc hk hP hD hS hd => W.iret hx hb hr (fun t ht hW => q_ri (u := (q' : qS)) hAe hk hP hD hS ht) hS.2.2 hd
  have hl := lv_entry ([.ref (a 0), .int p0]) (n := 2) (Nat.le_of_ble_eq_true rfl)
  rw [lg_entry_eq]
  generalize (lg_sl ([.ref (a 0), .int p0]) ++ List.replicate (2 - (lg_sl ([.ref (a 0), .int p0])).length) Slot.unset).toArray = ls at hl ⊢
  have hl : lv_has ls 2 [(0, .ref (a 0)), (1, .int p0)] := hl
  unfold wX10_bin at h
  show W p l e rmX10_bin s m #[.ref (a 0), .int p0] below meth c s.heap [] 0 0 _ _
  refine lv_aload_n hx hb dX10_bin_0 rfl (lv_at hl 0 rfl) ?_
  refine lv_iconst (v := (0 : Int32)) hx hb dX10_bin_1 (by decide) ?_
  refine va_put (D := G.1) (ci := 10) (v := .int (0 : Int32)) (ty := .int) (C := RX10) (T := TX10) (N := 15) hx hb hts iX10_bin_X10 tyX10 tyX10_ok nmX10 hown hKn.k hP hD hS 0 rfl rfl 0 (by decide) (hts _ lX10_bin_f32) (fun _ h9 => h9) rfl (by decide +kernel) rfl rfl (Nat.le_of_ble_eq_true rfl) dX10_bin_2 (fun H locs hP hD hS => ?_)
  obtain ⟨q1, eq1⟩ : ∃ z : qS, z = up2 q 0 0 (0 : Int32) := ⟨_, rfl⟩
  have hP : va_P G.1 vwCl (wM G a q1 ++ R) H := by rw [eq1]; exact hP
  have hD : va_D A (wM G a q1 ++ R) := by rw [eq1]; exact hD
  have h := h q1 eq1
  refine lv_iload_n hx hb dX10_bin_5 rfl (lv_at hl 1 rfl) ?_
  refine lv_iconst (v := (0 : Int32)) hx hb dX10_bin_6 (by decide) ?_
  refine lv_iconst (v := (2 : Int32)) hx hb dX10_bin_7 (by decide) ?_
  refine qc_si (As := [.int p0, .int (0 : Int32), .int (2 : Int32)]) (rest := []) ⟨hx, hb, hml, hown, hts⟩ (mX10_in l G _ _ _ p0 (0 : Int32) (2 : Int32)) (cwS 3 hts gX10_bin_X10_in rfl rfl rfl (by decide +kernel) ⟨Nat.le_of_ble_eq_true rfl, Nat.le_of_ble_eq_true rfl⟩) hP hD hS hA hKn h rfl hl.1 rfl (Nat.le_of_ble_eq_true rfl) dX10_bin_8 ⟨Nat.zero_le _, Nat.zero_le _⟩ (fun r2 _ H locs h hP hD hS => ?_)
  have hP : va_P G.1 vwCl (wM G a q1 ++ R) H := hP
  have hD : va_D A (wM G a q1 ++ R) := hD
  refine lv_if_eq (tgt := 26) hx hb dX10_bin_11 (by decide) (fun c1 => ?_) (fun c1 => ?_)
  · have h := h.1 c1
    refine lv_iconst (v := (-1 : Int32)) hx hb dX10_bin_26 (by decide) ?_
    exact kX10_bin_b27 hx hb hml hown hts hA hKn hret q1 (-1 : Int32) _ _ _ h hP hD hS (lv_sub hl [] rfl)
  · have h := h.2 c1
    refine lv_aload_n hx hb dX10_bin_14 rfl (lv_at hl 0 rfl) ?_
    refine va_get (D := G.1) (ci := 10) (v := .ref (a 1)) (C := RX10) (T := TX10) (N := 15) hx hb hts iX10_bin_X10 hown hKn.k hP 0 rfl rfl 1 (by decide) (hts _ lX10_bin_f7) (fun _ h9 => h9) rfl dX10_bin_15 ?_
    refine lv_bipush (v := (14 : Int32)) hx hb dX10_bin_18 (by decide) ?_
    refine lv_iload_n hx hb dX10_bin_20 rfl (lv_at hl 1 rfl) ?_
    refine lv_iadd hx hb dX10_bin_21 ?_
    obtain ⟨hin, h⟩ := h
    refine va_iald hx hb hKn.k hP 1 0 rfl rfl hin dX10_bin_22 ?_
    refine lv_goto (tgt := 27) hx hb dX10_bin_23 (by decide) ?_
    exact kX10_bin_b27 hx hb hml hown hts hA hKn hret q1 (q1 1 (Int32.toNatClampNeg ((14 : Int32) + p0))) _ _ _ h hP hD hS (lv_sub hl [] rfl)
abbrev rmX10_waiting : Room := { frames := 1, cells := 0, slots := 0, locals := 22 }
theorem lX10_waiting_f32 : Cond.fieldLink RX10 32 "QuarryBlendsModel" "thrown" "I" ∈ wsX10_waiting := by decide +kernel
theorem lX10_waiting_f7 : Cond.fieldLink RX10 7 "QuarryBlendsModel" "s" "[I" ∈ wsX10_waiting := by decide +kernel
theorem iX10_waiting_X10 : ∀ w ∈ wsX100, w ∈ wsX10_waiting := by decide +kernel
set_option maxHeartbeats 4000000 in
set_option maxRecDepth 100000 in
theorem kX10_waiting_b28 {p : Program} {l : Launch} {e : Env} {s : State} {m : MethodId} {args : Array Value} {below : List Frame} {meth : Method} {c : Code} {G : qG} {A : Nat → Prop} {Qf : State → Prop} {R : va_W} {a : Nat → Nat} {k : Int32 → qS → Prop} (hx : p.tables.exec = Jvm.exec) (hb : c.code = cX10_waiting) (hml : c.maxLocals = 2) (hown : s.vm.findClass RX10 = some m.cls) (hts : ∀ w ∈ wsX10_waiting, w.before args s = true) (hA : ∀ q : Nat, s.heap.size ≤ q → A q) (hKn : qKn G A s s.heap) (hret : ∀ (r : Int32) (q : qS) (H : Heap) (locs : List Loc) (ls : Array Slot) (pc : Nat), k r q → va_P G.1 vwCl (wM G a q ++ R) H → va_D A (wM G a q ++ R) → va_S A s.heap H locs → decode cX10_waiting pc = .ok (.ireturn, 1) → W p l e rmX10_waiting s m args below meth c H locs 0 0 Qf (F0 m pc ls [.int r])) : ∀ (q : qS) (z0 : Int32) (H : Heap) (locs : List Loc) (ls : Array Slot), wX10_waiting_b28 k q z0 → va_P G.1 vwCl (wM G a q ++ R) H → va_D A (wM G a q ++ R) → va_S A s.heap H locs → lv_has ls 2 [] → W p l e rmX10_waiting s m args below meth c H locs 0 0 Qf (F0 m 28 ls [.int z0]) := by
  intro q z0 H locs ls h hP hD hS hl
  unfold wX10_waiting_b28 at h
  exact hret _ _ _ _ _ _ h hP hD hS dX10_waiting_28
set_option maxHeartbeats 4000000 in
set_option maxRecDepth 100000 in
theorem mX10_waiting (l : Launch) (G : qG) (k : Int32 → qS → Prop) (R : va_W) (a : Nat → Nat) (q : qS) (sz : Nat) (p0 : Int32) : Met l yX10_waiting wsX10_waiting rmX10_waiting (qPc G [.ref (a 0), .int p0] (wM G a q ++ R) sz (wX10_waiting k q p0)) (qQi G (wM G a q ++ R) sz (fun (r : Int32) (u : qS) => k r u) (fun (u : qS) => wM G a u ++ R)) 0 0 (va_A (wM G a q ++ R) sz) := by
  refine Met.ofW (cc := cX10_waiting) (maxL := 2) (ret := (some .int)) (by decide) rfl ?_
  intro p e s m args below meth c s₁ B hml hv
  obtain ⟨rfl, hsz, hP, hD0, hKn0, h⟩ := hv
  have hx := B.exec
  have hb := B.bytes
  have hr := B.returns
  have hts := atoms_spec (ws := wsX10_waiting) B.pre
  have hown : s.vm.findClass RX10 = some m.cls := findClass_of_methodNamed B.named
  have hlocks := B.notSynchronized
  subst hsz
  have hD := hD0.self (sz := s.heap.size)
  generalize hAe : va_A (wM G a q ++ R) s.heap.size = A at hD hKn0 ⊢
  have hA : ∀ q : Nat, s.heap.size ≤ q → A q := fun q h => by rw [← hAe]; exact Or.inr h
  have hKn : qKn G A s s.heap := hKn0
  have hS : va_S A s.heap s.heap [] := va_S.rf
  have hret : ∀ (r : Int32) (q' : qS) (H : Heap) (locs : List Loc) (ls : Array Slot) (pc : Nat), k r q' → va_P G.1 vwCl (wM G a q' ++ R) H → va_D A (wM G a q' ++ R) → va_S A s.heap H locs → decode cX10_waiting pc = .ok (.ireturn, 1) → W p l e rmX10_waiting s m #[.ref (a 0), .int p0] below meth c H locs 0 0 (MQ below (qQi G (wM G a q ++ R) s.heap.size (fun (r : Int32) (u : qS) => k r u) (fun (u : qS) => wM G a u ++ R)) #[.ref (a 0), .int p0] s 0 0 A) (F0 m pc ls [.int r]) := fun r q' H locs ls pc hk hP hD hS hd => W.iret hx hb hr (fun t ht hW => q_ri (u := (q' : qS)) hAe hk hP hD hS ht) hS.2.2 hd
  have hl := lv_entry ([.ref (a 0), .int p0]) (n := 2) (Nat.le_of_ble_eq_true rfl)
  rw [lg_entry_eq]
  generalize (lg_sl ([.ref (a 0), .int p0]) ++ List.replicate (2 - (lg_sl ([.ref (a 0), .int p0])).length) Slot.unset).toArray = ls at hl ⊢
  have hl : lv_has ls 2 [(0, .ref (a 0)), (1, .int p0)] := hl
  unfold wX10_waiting at h
  show W p l e rmX10_waiting s m #[.ref (a 0), .int p0] below meth c s.heap [] 0 0 _ _
  refine lv_aload_n hx hb dX10_waiting_0 rfl (lv_at hl 0 rfl) ?_
  refine lv_iconst (v := (0 : Int32)) hx hb dX10_waiting_1 (by decide) ?_
  refine va_put (D := G.1) (ci := 10) (v := .int (0 : Int32)) (ty := .int) (C := RX10) (T := TX10) (N := 15) hx hb hts iX10_waiting_X10 tyX10 tyX10_ok nmX10 hown hKn.k hP hD hS 0 rfl rfl 0 (by decide) (hts _ lX10_waiting_f32) (fun _ h9 => h9) rfl (by decide +kernel) rfl rfl (Nat.le_of_ble_eq_true rfl) dX10_waiting_2 (fun H locs hP hD hS => ?_)
  obtain ⟨q1, eq1⟩ : ∃ z : qS, z = up2 q 0 0 (0 : Int32) := ⟨_, rfl⟩
  have hP : va_P G.1 vwCl (wM G a q1 ++ R) H := by rw [eq1]; exact hP
  have hD : va_D A (wM G a q1 ++ R) := by rw [eq1]; exact hD
  have h := h q1 eq1
  refine lv_iload_n hx hb dX10_waiting_5 rfl (lv_at hl 1 rfl) ?_
  refine lv_iconst (v := (1 : Int32)) hx hb dX10_waiting_6 (by decide) ?_
  refine lv_bipush (v := (9 : Int32)) hx hb dX10_waiting_7 (by decide) ?_
  refine qc_si (As := [.int p0, .int (1 : Int32), .int (9 : Int32)]) (rest := []) ⟨hx, hb, hml, hown, hts⟩ (mX10_in l G _ _ _ p0 (1 : Int32) (9 : Int32)) (cwS 3 hts gX10_waiting_X10_in rfl rfl rfl (by decide +kernel) ⟨Nat.le_of_ble_eq_true rfl, Nat.le_of_ble_eq_true rfl⟩) hP hD hS hA hKn h rfl hl.1 rfl (Nat.le_of_ble_eq_true rfl) dX10_waiting_9 ⟨Nat.zero_le _, Nat.zero_le _⟩ (fun r2 _ H locs h hP hD hS => ?_)
  have hP : va_P G.1 vwCl (wM G a q1 ++ R) H := hP
  have hD : va_D A (wM G a q1 ++ R) := hD
  refine lv_if_eq (tgt := 27) hx hb dX10_waiting_12 (by decide) (fun c1 => ?_) (fun c1 => ?_)
  · have h := h.1 c1
    refine lv_iconst (v := (-1 : Int32)) hx hb dX10_waiting_27 (by decide) ?_
    exact kX10_waiting_b28 hx hb hml hown hts hA hKn hret q1 (-1 : Int32) _ _ _ h hP hD hS (lv_sub hl [] rfl)
  · have h := h.2 c1
    refine lv_aload_n hx hb dX10_waiting_15 rfl (lv_at hl 0 rfl) ?_
    refine va_get (D := G.1) (ci := 10) (v := .ref (a 1)) (C := RX10) (T := TX10) (N := 15) hx hb hts iX10_waiting_X10 hown hKn.k hP 0 rfl rfl 1 (by decide) (hts _ lX10_waiting_f7) (fun _ h9 => h9) rfl dX10_waiting_16 ?_
    refine lv_bipush (v := (16 : Int32)) hx hb dX10_waiting_19 (by decide) ?_
    refine lv_iload_n hx hb dX10_waiting_21 rfl (lv_at hl 1 rfl) ?_
    refine lv_iadd hx hb dX10_waiting_22 ?_
    obtain ⟨hin, h⟩ := h
    refine va_iald hx hb hKn.k hP 1 0 rfl rfl hin dX10_waiting_23 ?_
    refine lv_goto (tgt := 28) hx hb dX10_waiting_24 (by decide) ?_
    exact kX10_waiting_b28 hx hb hml hown hts hA hKn hret q1 (q1 1 (Int32.toNatClampNeg ((16 : Int32) + p0))) _ _ _ h hP hD hS (lv_sub hl [] rfl)
abbrev rmX10_onWay : Room := { frames := 1, cells := 0, slots := 0, locals := 22 }
theorem lX10_onWay_f7 : Cond.fieldLink RX10 7 "QuarryBlendsModel" "s" "[I" ∈ wsX10_onWay := by decide +kernel
theorem iX10_onWay_X10 : ∀ w ∈ wsX100, w ∈ wsX10_onWay := by decide +kernel
set_option maxHeartbeats 4000000 in
set_option maxRecDepth 100000 in
theorem kX10_onWay_b29 {p : Program} {l : Launch} {e : Env} {s : State} {m : MethodId} {args : Array Value} {below : List Frame} {meth : Method} {c : Code} {G : qG} {A : Nat → Prop} {Qf : State → Prop} {R : va_W} {a : Nat → Nat} {k : Int32 → qS → Prop} (hx : p.tables.exec = Jvm.exec) (hb : c.code = cX10_onWay) (hml : c.maxLocals = 3) (hown : s.vm.findClass RX10 = some m.cls) (hts : ∀ w ∈ wsX10_onWay, w.before args s = true) (hA : ∀ q : Nat, s.heap.size ≤ q → A q) (hKn : qKn G A s s.heap) (hret : ∀ (r : Int32) (q : qS) (H : Heap) (locs : List Loc) (ls : Array Slot) (pc : Nat), k r q → va_P G.1 vwCl (wM G a q ++ R) H → va_D A (wM G a q ++ R) → va_S A s.heap H locs → decode cX10_onWay pc = .ok (.ireturn, 1) → W p l e rmX10_onWay s m args below meth c H locs 0 0 Qf (F0 m pc ls [.int r])) {kb4 : qS → Int32 → Int32 → Prop} (hkb4 : ∀ (q : qS) (x1 : Int32) (x2 : Int32) (H : Heap) (locs : List Loc) (ls : Array Slot), kb4 q x1 x2 → va_P G.1 vwCl (wM G a q ++ R) H → va_D A (wM G a q ++ R) → va_S A s.heap H locs → lv_has ls 3 [(0, .ref (a 0)), (1, .int x1), (2, .int x2)] → W p l e rmX10_onWay s m args below meth c H locs 0 0 Qf (F0 m 4 ls [])) : ∀ (q : qS) (x2 : Int32) (z0 : Int32) (z1 : Int32) (H : Heap) (locs : List Loc) (ls : Array Slot), wX10_onWay_b29 k kb4 q x2 z0 z1 → va_P G.1 vwCl (wM G a q ++ R) H → va_D A (wM G a q ++ R) → va_S A s.heap H locs → lv_has ls 3 [(0, .ref (a 0)), (2, .int x2)] → W p l e rmX10_onWay s m args below meth c H locs 0 0 Qf (F0 m 29 ls [.int z1, .int z0]) := by
  intro q x2 z0 z1 H locs ls h hP hD hS hl
  unfold wX10_onWay_b29 at h
  refine lv_iadd hx hb dX10_onWay_29 ?_
  refine lv_topi (fun y1 ey1 => ?_)
  have h := h y1 ey1
  refine lv_istore_n (lv' := [(1, .int y1), (0, .ref (a 0)), (2, .int x2)]) hx hb dX10_onWay_30 rfl hl (by decide) rfl (fun ls hl => ?_)
  obtain ⟨y2, ey2⟩ : ∃ z : Int32, z = x2 + (1 : Int32) := ⟨_, rfl⟩
  have h := h y2 ey2
  refine lv_iinc (v := y2) (lv' := [(2, .int y2), (1, .int y1), (0, .ref (a 0))]) hx hb dX10_onWay_31 hl (k := 2) rfl (by rw [ey2]; rfl) (by decide) rfl (fun ls hl => ?_)
  refine lv_goto (tgt := 4) hx hb dX10_onWay_34 (by decide) ?_
  exact hkb4 q y1 y2 _ _ _ h hP hD hS (lv_sub hl [2, 1, 0] rfl)
set_option maxHeartbeats 4000000 in
set_option maxRecDepth 100000 in
theorem kX10_onWay_b4 {p : Program} {l : Launch} {e : Env} {s : State} {m : MethodId} {args : Array Value} {below : List Frame} {meth : Method} {c : Code} {G : qG} {A : Nat → Prop} {Qf : State → Prop} {R : va_W} {a : Nat → Nat} {k : Int32 → qS → Prop} (hx : p.tables.exec = Jvm.exec) (hb : c.code = cX10_onWay) (hml : c.maxLocals = 3) (hown : s.vm.findClass RX10 = some m.cls) (hts : ∀ w ∈ wsX10_onWay, w.before args s = true) (hA : ∀ q : Nat, s.heap.size ≤ q → A q) (hKn : qKn G A s s.heap) (hret : ∀ (r : Int32) (q : qS) (H : Heap) (locs : List Loc) (ls : Array Slot) (pc : Nat), k r q → va_P G.1 vwCl (wM G a q ++ R) H → va_D A (wM G a q ++ R) → va_S A s.heap H locs → decode cX10_onWay pc = .ok (.ireturn, 1) → W p l e rmX10_onWay s m args below meth c H locs 0 0 Qf (F0 m pc ls [.int r])) : ∀ (n : Nat) (q : qS) (x1 : Int32) (x2 : Int32) (H : Heap) (locs : List Loc) (ls : Array Slot), wX10_onWay_b4 k n q x1 x2 → va_P G.1 vwCl (wM G a q ++ R) H → va_D A (wM G a q ++ R) → va_S A s.heap H locs → lv_has ls 3 [(0, .ref (a 0)), (1, .int x1), (2, .int x2)] → W p l e rmX10_onWay s m args below meth c H locs 0 0 Qf (F0 m 4 ls []) := by
  intro n
  induction n with
  | zero => intros; rename_i h _ _ _ _; exact h.elim
  | succ n ih =>
    intro q x1 x2 H locs ls h hP hD hS hl
    unfold wX10_onWay_b4 at h
    refine lv_iload_n hx hb dX10_onWay_4 rfl (lv_at hl 2 rfl) ?_
    refine lv_aload_n hx hb dX10_onWay_5 rfl (lv_at hl 0 rfl) ?_
    refine va_get (D := G.1) (ci := 10) (v := .ref (a 1)) (C := RX10) (T := TX10) (N := 15) hx hb hts iX10_onWay_X10 hown hKn.k hP 0 rfl rfl 1 (by decide) (hts _ lX10_onWay_f7) (fun _ h9 => h9) rfl dX10_onWay_6 ?_
    refine lv_iconst (v := (0 : Int32)) hx hb dX10_onWay_9 (by decide) ?_
    refine va_iald hx hb hKn.k hP 1 0 rfl rfl (by unfold vp_in; decide) dX10_onWay_10 ?_
    refine lv_icmp_ge (tgt := 37) hx hb dX10_onWay_11 (by decide) (fun c1 => ?_) (fun c1 => ?_)
    · have h := h.1 c1
      refine lv_iload_n hx hb dX10_onWay_37 rfl (lv_at hl 1 rfl) ?_
      exact hret _ _ _ _ _ _ h hP hD hS dX10_onWay_38
    · have h := h.2 c1
      refine lv_iload_n hx hb dX10_onWay_14 rfl (lv_at hl 1 rfl) ?_
      refine lv_aload_n hx hb dX10_onWay_15 rfl (lv_at hl 0 rfl) ?_
      refine lv_iload_n hx hb dX10_onWay_16 rfl (lv_at hl 2 rfl) ?_
      refine lv_iconst (v := (0 : Int32)) hx hb dX10_onWay_17 (by decide) ?_
      refine qc_vi (As := [.int x2, .int (0 : Int32)]) (rest := [.int x1]) ⟨hx, hb, hml, hown, hts⟩ (mX10_truckOf l G _ _ a q _ x2 (0 : Int32)) (cwV 2 hts gX10_onWay_X10_truckOf rfl rfl rfl (by decide +kernel) ⟨Nat.le_of_ble_eq_true rfl, Nat.le_of_ble_eq_true rfl⟩) hP hD hS hA hKn 0 10 rfl rfl rfl h rfl hl.1 rfl (Nat.le_of_ble_eq_true rfl) dX10_onWay_18 ⟨Nat.zero_le _, Nat.zero_le _⟩ (fun r3 q4 H locs h hP hD hS => ?_)
      have hP : va_P G.1 vwCl (wM G a q4 ++ R) H := hP
      have hD : va_D A (wM G a q4 ++ R) := hD
      refine lv_if_le (tgt := 28) hx hb dX10_onWay_21 (by decide) (fun c1 => ?_) (fun c1 => ?_)
      · have h := h.1 c1
        refine lv_iconst (v := (0 : Int32)) hx hb dX10_onWay_28 (by decide) ?_
        exact kX10_onWay_b29 hx hb hml hown hts hA hKn hret ih q4 x2 x1 (0 : Int32) _ _ _ h hP hD hS (lv_sub hl [0, 2] rfl)
      · have h := h.2 c1
        refine lv_iconst (v := (1 : Int32)) hx hb dX10_onWay_24 (by decide) ?_
        refine lv_goto (tgt := 29) hx hb dX10_onWay_25 (by decide) ?_
        exact kX10_onWay_b29 hx hb hml hown hts hA hKn hret ih q4 x2 x1 (1 : Int32) _ _ _ h hP hD hS (lv_sub hl [0, 2] rfl)
set_option maxHeartbeats 4000000 in
set_option maxRecDepth 100000 in
theorem mX10_onWay (l : Launch) (G : qG) (k : Int32 → qS → Prop) (R : va_W) (a : Nat → Nat) (q : qS) (sz : Nat) : Met l yX10_onWay wsX10_onWay rmX10_onWay (qPc G [.ref (a 0)] (wM G a q ++ R) sz (wX10_onWay k q)) (qQi G (wM G a q ++ R) sz (fun (r : Int32) (u : qS) => k r u) (fun (u : qS) => wM G a u ++ R)) 0 0 (va_A (wM G a q ++ R) sz) := by
  refine Met.ofW (cc := cX10_onWay) (maxL := 3) (ret := (some .int)) (by decide) rfl ?_
  intro p e s m args below meth c s₁ B hml hv
  obtain ⟨rfl, hsz, hP, hD0, hKn0, h⟩ := hv
  have hx := B.exec
  have hb := B.bytes
  have hr := B.returns
  have hts := atoms_spec (ws := wsX10_onWay) B.pre
  have hown : s.vm.findClass RX10 = some m.cls := findClass_of_methodNamed B.named
  have hlocks := B.notSynchronized
  subst hsz
  have hD := hD0.self (sz := s.heap.size)
  generalize hAe : va_A (wM G a q ++ R) s.heap.size = A at hD hKn0 ⊢
  have hA : ∀ q : Nat, s.heap.size ≤ q → A q := fun q h => by rw [← hAe]; exact Or.inr h
  have hKn : qKn G A s s.heap := hKn0
  have hS : va_S A s.heap s.heap [] := va_S.rf
  have hret : ∀ (r : Int32) (q' : qS) (H : Heap) (locs : List Loc) (ls : Array Slot) (pc : Nat), k r q' → va_P G.1 vwCl (wM G a q' ++ R) H → va_D A (wM G a q' ++ R) → va_S A s.heap H locs → decode cX10_onWay pc = .ok (.ireturn, 1) → W p l e rmX10_onWay s m #[.ref (a 0)] below meth c H locs 0 0 (MQ below (qQi G (wM G a q ++ R) s.heap.size (fun (r : Int32) (u : qS) => k r u) (fun (u : qS) => wM G a u ++ R)) #[.ref (a 0)] s 0 0 A) (F0 m pc ls [.int r]) := fun r q' H locs ls pc hk hP hD hS hd => W.iret hx hb hr (fun t ht hW => q_ri (u := (q' : qS)) hAe hk hP hD hS ht) hS.2.2 hd
  have hl := lv_entry ([.ref (a 0)]) (n := 3) (Nat.le_of_ble_eq_true rfl)
  rw [lg_entry_eq]
  generalize (lg_sl ([.ref (a 0)]) ++ List.replicate (3 - (lg_sl ([.ref (a 0)])).length) Slot.unset).toArray = ls at hl ⊢
  have hl : lv_has ls 3 [(0, .ref (a 0))] := hl
  unfold wX10_onWay at h
  show W p l e rmX10_onWay s m #[.ref (a 0)] below meth c s.heap [] 0 0 _ _
  refine lv_iconst (v := (0 : Int32)) hx hb dX10_onWay_0 (by decide) ?_
  refine lv_istore_n (lv' := [(1, .int (0 : Int32)), (0, .ref (a 0))]) hx hb dX10_onWay_1 rfl hl (by decide) rfl (fun ls hl => ?_)
  refine lv_iconst (v := (0 : Int32)) hx hb dX10_onWay_2 (by decide) ?_
  refine lv_istore_n (lv' := [(2, .int (0 : Int32)), (1, .int (0 : Int32)), (0, .ref (a 0))]) hx hb dX10_onWay_3 rfl hl (by decide) rfl (fun ls hl => ?_)
  obtain ⟨n5, h⟩ := h
  exact kX10_onWay_b4 hx hb hml hown hts hA hKn hret n5 q (0 : Int32) (0 : Int32) _ _ _ h hP hD hS (lv_sub hl [2, 1, 0] rfl)
abbrev rmX10_count : Room := { frames := 2, cells := 0, slots := 0, locals := 44 }
theorem lX10_count_f144 : Cond.fieldLink RX10 144 "QuarryBlendsModel" "length" "I" ∈ wsX10_count := by decide +kernel
theorem lX10_count_f32 : Cond.fieldLink RX10 32 "QuarryBlendsModel" "thrown" "I" ∈ wsX10_count := by decide +kernel
theorem lX10_count_f36 : Cond.fieldLink RX10 36 "QuarryBlendsModel" "undoMany" "I" ∈ wsX10_count := by decide +kernel
theorem lX10_count_f7 : Cond.fieldLink RX10 7 "QuarryBlendsModel" "s" "[I" ∈ wsX10_count := by decide +kernel
theorem iX10_count_X10 : ∀ w ∈ wsX100, w ∈ wsX10_count := by decide +kernel
set_option maxHeartbeats 4000000 in
set_option maxRecDepth 100000 in
theorem kX10_count_b210 {p : Program} {l : Launch} {e : Env} {s : State} {m : MethodId} {args : Array Value} {below : List Frame} {meth : Method} {c : Code} {G : qG} {A : Nat → Prop} {Qf : State → Prop} {R : va_W} {a : Nat → Nat} {k : Int32 → qS → Prop} (hx : p.tables.exec = Jvm.exec) (hb : c.code = cX10_count) (hml : c.maxLocals = 2) (hown : s.vm.findClass RX10 = some m.cls) (hts : ∀ w ∈ wsX10_count, w.before args s = true) (hA : ∀ q : Nat, s.heap.size ≤ q → A q) (hKn : qKn G A s s.heap) (hret : ∀ (r : Int32) (q : qS) (H : Heap) (locs : List Loc) (ls : Array Slot) (pc : Nat), k r q → va_P G.1 vwCl (wM G a q ++ R) H → va_D A (wM G a q ++ R) → va_S A s.heap H locs → decode cX10_count pc = .ok (.ireturn, 1) → W p l e rmX10_count s m args below meth c H locs 0 0 Qf (F0 m pc ls [.int r])) : ∀ (q : qS) (z0 : Int32) (H : Heap) (locs : List Loc) (ls : Array Slot), wX10_count_b210 k q z0 → va_P G.1 vwCl (wM G a q ++ R) H → va_D A (wM G a q ++ R) → va_S A s.heap H locs → lv_has ls 2 [] → W p l e rmX10_count s m args below meth c H locs 0 0 Qf (F0 m 210 ls [.int z0]) := by
  intro q z0 H locs ls h hP hD hS hl
  unfold wX10_count_b210 at h
  exact hret _ _ _ _ _ _ h hP hD hS dX10_count_210
set_option maxHeartbeats 4000000 in
set_option maxRecDepth 100000 in
theorem kX10_count_b185 {p : Program} {l : Launch} {e : Env} {s : State} {m : MethodId} {args : Array Value} {below : List Frame} {meth : Method} {c : Code} {G : qG} {A : Nat → Prop} {Qf : State → Prop} {R : va_W} {a : Nat → Nat} {k : Int32 → qS → Prop} (hx : p.tables.exec = Jvm.exec) (hb : c.code = cX10_count) (hml : c.maxLocals = 2) (hown : s.vm.findClass RX10 = some m.cls) (hts : ∀ w ∈ wsX10_count, w.before args s = true) (hA : ∀ q : Nat, s.heap.size ≤ q → A q) (hKn : qKn G A s s.heap) (hret : ∀ (r : Int32) (q : qS) (H : Heap) (locs : List Loc) (ls : Array Slot) (pc : Nat), k r q → va_P G.1 vwCl (wM G a q ++ R) H → va_D A (wM G a q ++ R) → va_S A s.heap H locs → decode cX10_count pc = .ok (.ireturn, 1) → W p l e rmX10_count s m args below meth c H locs 0 0 Qf (F0 m pc ls [.int r])) : ∀ (q : qS) (x1 : Int32) (H : Heap) (locs : List Loc) (ls : Array Slot), wX10_count_b185 k q x1 → va_P G.1 vwCl (wM G a q ++ R) H → va_D A (wM G a q ++ R) → va_S A s.heap H locs → lv_has ls 2 [(0, .ref (a 0)), (1, .int x1)] → W p l e rmX10_count s m args below meth c H locs 0 0 Qf (F0 m 185 ls []) := by
  intro q x1 H locs ls h hP hD hS hl
  unfold wX10_count_b185 at h
  refine lv_iload_n hx hb dX10_count_185 rfl (lv_at hl 1 rfl) ?_
  refine lv_bipush (v := (11 : Int32)) hx hb dX10_count_186 (by decide) ?_
  refine lv_bipush (v := (16 : Int32)) hx hb dX10_count_188 (by decide) ?_
  refine qc_si (As := [.int x1, .int (11 : Int32), .int (16 : Int32)]) (rest := []) ⟨hx, hb, hml, hown, hts⟩ (mX10_in l G _ _ _ x1 (11 : Int32) (16 : Int32)) (cwS 3 hts gX10_count_X10_in rfl rfl rfl (by decide +kernel) ⟨Nat.le_of_ble_eq_true rfl, Nat.le_of_ble_eq_true rfl⟩) hP hD hS hA hKn h rfl hl.1 rfl (Nat.le_of_ble_eq_true rfl) dX10_count_190 ⟨Nat.zero_le _, Nat.zero_le _⟩ (fun r1 _ H locs h hP hD hS => ?_)
  have hP : va_P G.1 vwCl (wM G a q ++ R) H := hP
  have hD : va_D A (wM G a q ++ R) := hD
  refine lv_if_eq (tgt := 208) hx hb dX10_count_193 (by decide) (fun c1 => ?_) (fun c1 => ?_)
  · have h := h.1 c1
    refine lv_bipush (v := (-2 : Int32)) hx hb dX10_count_208 (by decide) ?_
    exact kX10_count_b210 hx hb hml hown hts hA hKn hret q (-2 : Int32) _ _ _ h hP hD hS (lv_sub hl [] rfl)
  · have h := h.2 c1
    refine lv_aload_n hx hb dX10_count_196 rfl (lv_at hl 0 rfl) ?_
    refine va_get (D := G.1) (ci := 10) (v := .ref (a 1)) (C := RX10) (T := TX10) (N := 15) hx hb hts iX10_count_X10 hown hKn.k hP 0 rfl rfl 1 (by decide) (hts _ lX10_count_f7) (fun _ h9 => h9) rfl dX10_count_197 ?_
    refine lv_iload_n hx hb dX10_count_200 rfl (lv_at hl 1 rfl) ?_
    refine lv_bipush (v := (11 : Int32)) hx hb dX10_count_201 (by decide) ?_
    refine lv_isub hx hb dX10_count_203 ?_
    obtain ⟨hin, h⟩ := h
    refine va_iald hx hb hKn.k hP 1 0 rfl rfl hin dX10_count_204 ?_
    refine lv_goto (tgt := 210) hx hb dX10_count_205 (by decide) ?_
    exact kX10_count_b210 hx hb hml hown hts hA hKn hret q (q 1 (Int32.toNatClampNeg (x1 - (11 : Int32)))) _ _ _ h hP hD hS (lv_sub hl [] rfl)
set_option maxHeartbeats 4000000 in
set_option maxRecDepth 100000 in
theorem mX10_count (l : Launch) (G : qG) (k : Int32 → qS → Prop) (R : va_W) (a : Nat → Nat) (q : qS) (sz : Nat) (p0 : Int32) : Met l yX10_count wsX10_count rmX10_count (qPc G [.ref (a 0), .int p0] (wM G a q ++ R) sz (wX10_count k q p0)) (qQi G (wM G a q ++ R) sz (fun (r : Int32) (u : qS) => k r u) (fun (u : qS) => wM G a u ++ R)) 0 0 (va_A (wM G a q ++ R) sz) := by
  refine Met.ofW (cc := cX10_count) (maxL := 2) (ret := (some .int)) (by decide) rfl ?_
  intro p e s m args below meth c s₁ B hml hv
  obtain ⟨rfl, hsz, hP, hD0, hKn0, h⟩ := hv
  have hx := B.exec
  have hb := B.bytes
  have hr := B.returns
  have hts := atoms_spec (ws := wsX10_count) B.pre
  have hown : s.vm.findClass RX10 = some m.cls := findClass_of_methodNamed B.named
  have hlocks := B.notSynchronized
  subst hsz
  have hD := hD0.self (sz := s.heap.size)
  generalize hAe : va_A (wM G a q ++ R) s.heap.size = A at hD hKn0 ⊢
  have hA : ∀ q : Nat, s.heap.size ≤ q → A q := fun q h => by rw [← hAe]; exact Or.inr h
  have hKn : qKn G A s s.heap := hKn0
  have hS : va_S A s.heap s.heap [] := va_S.rf
  have hret : ∀ (r : Int32) (q' : qS) (H : Heap) (locs : List Loc) (ls : Array Slot) (pc : Nat), k r q' → va_P G.1 vwCl (wM G a q' ++ R) H → va_D A (wM G a q' ++ R) → va_S A s.heap H locs → decode cX10_count pc = .ok (.ireturn, 1) → W p l e rmX10_count s m #[.ref (a 0), .int p0] below meth c H locs 0 0 (MQ below (qQi G (wM G a q ++ R) s.heap.size (fun (r : Int32) (u : qS) => k r u) (fun (u : qS) => wM G a u ++ R)) #[.ref (a 0), .int p0] s 0 0 A) (F0 m pc ls [.int r]) := fun r q' H locs ls pc hk hP hD hS hd => W.iret hx hb hr (fun t ht hW => q_ri (u := (q' : qS)) hAe hk hP hD hS ht) hS.2.2 hd
  have hl := lv_entry ([.ref (a 0), .int p0]) (n := 2) (Nat.le_of_ble_eq_true rfl)
  rw [lg_entry_eq]
  generalize (lg_sl ([.ref (a 0), .int p0]) ++ List.replicate (2 - (lg_sl ([.ref (a 0), .int p0])).length) Slot.unset).toArray = ls at hl ⊢
  have hl : lv_has ls 2 [(0, .ref (a 0)), (1, .int p0)] := hl
  unfold wX10_count at h
  show W p l e rmX10_count s m #[.ref (a 0), .int p0] below meth c s.heap [] 0 0 _ _
  refine lv_aload_n hx hb dX10_count_0 rfl (lv_at hl 0 rfl) ?_
  refine lv_iconst (v := (0 : Int32)) hx hb dX10_count_1 (by decide) ?_
  refine va_put (D := G.1) (ci := 10) (v := .int (0 : Int32)) (ty := .int) (C := RX10) (T := TX10) (N := 15) hx hb hts iX10_count_X10 tyX10 tyX10_ok nmX10 hown hKn.k hP hD hS 0 rfl rfl 0 (by decide) (hts _ lX10_count_f32) (fun _ h9 => h9) rfl (by decide +kernel) rfl rfl (Nat.le_of_ble_eq_true rfl) dX10_count_2 (fun H locs hP hD hS => ?_)
  obtain ⟨q2, eq2⟩ : ∃ z : qS, z = up2 q 0 0 (0 : Int32) := ⟨_, rfl⟩
  have hP : va_P G.1 vwCl (wM G a q2 ++ R) H := by rw [eq2]; exact hP
  have hD : va_D A (wM G a q2 ++ R) := by rw [eq2]; exact hD
  have h := h q2 eq2
  refine lv_iload_n hx hb dX10_count_5 rfl (lv_at hl 1 rfl) ?_
  by_cases c0 : p0 = (0 : Int32)
  · refine lv_tableIn (tgt := 96) hx hb dX10_count_6 (by rw [c0]; decide) (by rw [c0]; decide) (by rw [c0]; rfl) (by decide) ?_
    have h := (h.1) c0
    refine lv_aload_n hx hb dX10_count_96 rfl (lv_at hl 0 rfl) ?_
    refine va_get (D := G.1) (ci := 10) (v := .ref (a 1)) (C := RX10) (T := TX10) (N := 15) hx hb hts iX10_count_X10 hown hKn.k hP 0 rfl rfl 1 (by decide) (hts _ lX10_count_f7) (fun _ h9 => h9) rfl dX10_count_97 ?_
    refine lv_bipush (v := (6 : Int32)) hx hb dX10_count_100 (by decide) ?_
    refine va_iald hx hb hKn.k hP 1 0 rfl rfl (by unfold vp_in; decide) dX10_count_102 ?_
    exact hret _ _ _ _ _ _ h hP hD hS dX10_count_103
  · skip
    by_cases c1 : p0 = (1 : Int32)
    · refine lv_tableIn (tgt := 104) hx hb dX10_count_6 (by rw [c1]; decide) (by rw [c1]; decide) (by rw [c1]; rfl) (by decide) ?_
      have h := (h.2.1) c1
      refine lv_aload_n hx hb dX10_count_104 rfl (lv_at hl 0 rfl) ?_
      refine va_get (D := G.1) (ci := 10) (v := .ref (a 1)) (C := RX10) (T := TX10) (N := 15) hx hb hts iX10_count_X10 hown hKn.k hP 0 rfl rfl 1 (by decide) (hts _ lX10_count_f7) (fun _ h9 => h9) rfl dX10_count_105 ?_
      refine lv_bipush (v := (7 : Int32)) hx hb dX10_count_108 (by decide) ?_
      refine va_iald hx hb hKn.k hP 1 0 rfl rfl (by unfold vp_in; decide) dX10_count_110 ?_
      exact hret _ _ _ _ _ _ h hP hD hS dX10_count_111
    · skip
      by_cases c2 : p0 = (2 : Int32)
      · refine lv_tableIn (tgt := 112) hx hb dX10_count_6 (by rw [c2]; decide) (by rw [c2]; decide) (by rw [c2]; rfl) (by decide) ?_
        have h := (h.2.2.1) c2
        refine lv_aload_n hx hb dX10_count_112 rfl (lv_at hl 0 rfl) ?_
        refine va_get (D := G.1) (ci := 10) (v := .ref (a 1)) (C := RX10) (T := TX10) (N := 15) hx hb hts iX10_count_X10 hown hKn.k hP 0 rfl rfl 1 (by decide) (hts _ lX10_count_f7) (fun _ h9 => h9) rfl dX10_count_113 ?_
        refine lv_bipush (v := (8 : Int32)) hx hb dX10_count_116 (by decide) ?_
        refine va_iald hx hb hKn.k hP 1 0 rfl rfl (by unfold vp_in; decide) dX10_count_118 ?_
        exact hret _ _ _ _ _ _ h hP hD hS dX10_count_119
      · skip
        by_cases c3 : p0 = (3 : Int32)
        · refine lv_tableIn (tgt := 120) hx hb dX10_count_6 (by rw [c3]; decide) (by rw [c3]; decide) (by rw [c3]; rfl) (by decide) ?_
          have h := (h.2.2.2.1) c3
          refine lv_aload_n hx hb dX10_count_120 rfl (lv_at hl 0 rfl) ?_
          refine qc_vi (As := []) (rest := []) ⟨hx, hb, hml, hown, hts⟩ (mX10_onWay l G _ _ a q2 _ ) (cwV 0 hts gX10_count_X10_onWay rfl rfl rfl (by decide +kernel) ⟨Nat.le_of_ble_eq_true rfl, Nat.le_of_ble_eq_true rfl⟩) hP hD hS hA hKn 0 10 rfl rfl rfl h rfl hl.1 rfl (Nat.le_of_ble_eq_true rfl) dX10_count_121 ⟨Nat.zero_le _, Nat.zero_le _⟩ (fun r3 q4 H locs h hP hD hS => ?_)
          have hP : va_P G.1 vwCl (wM G a q4 ++ R) H := hP
          have hD : va_D A (wM G a q4 ++ R) := hD
          exact hret _ _ _ _ _ _ h hP hD hS dX10_count_124
        · skip
          by_cases c4 : p0 = (4 : Int32)
          · refine lv_tableIn (tgt := 125) hx hb dX10_count_6 (by rw [c4]; decide) (by rw [c4]; decide) (by rw [c4]; rfl) (by decide) ?_
            have h := (h.2.2.2.2.1) c4
            refine lv_aload_n hx hb dX10_count_125 rfl (lv_at hl 0 rfl) ?_
            refine qc_vi (As := []) (rest := []) ⟨hx, hb, hml, hown, hts⟩ (mX10_inFront l G _ _ a q2 _ ) (cwV 0 hts gX10_count_X10_inFront rfl rfl rfl (by decide +kernel) ⟨Nat.le_of_ble_eq_true rfl, Nat.le_of_ble_eq_true rfl⟩) hP hD hS hA hKn 0 10 rfl rfl rfl h rfl hl.1 rfl (Nat.le_of_ble_eq_true rfl) dX10_count_126 ⟨Nat.zero_le _, Nat.zero_le _⟩ (fun r5 q6 H locs h hP hD hS => ?_)
            have hP : va_P G.1 vwCl (wM G a q6 ++ R) H := hP
            have hD : va_D A (wM G a q6 ++ R) := hD
            exact hret _ _ _ _ _ _ h hP hD hS dX10_count_129
          · skip
            by_cases c5 : p0 = (5 : Int32)
            · refine lv_tableIn (tgt := 130) hx hb dX10_count_6 (by rw [c5]; decide) (by rw [c5]; decide) (by rw [c5]; rfl) (by decide) ?_
              have h := (h.2.2.2.2.2.1) c5
              refine lv_aload_n hx hb dX10_count_130 rfl (lv_at hl 0 rfl) ?_
              refine va_get (D := G.1) (ci := 10) (v := .ref (a 1)) (C := RX10) (T := TX10) (N := 15) hx hb hts iX10_count_X10 hown hKn.k hP 0 rfl rfl 1 (by decide) (hts _ lX10_count_f7) (fun _ h9 => h9) rfl dX10_count_131 ?_
              refine lv_bipush (v := (9 : Int32)) hx hb dX10_count_134 (by decide) ?_
              refine va_iald hx hb hKn.k hP 1 0 rfl rfl (by unfold vp_in; decide) dX10_count_136 ?_
              exact hret _ _ _ _ _ _ h hP hD hS dX10_count_137
            · skip
              by_cases c6 : p0 = (6 : Int32)
              · refine lv_tableIn (tgt := 138) hx hb dX10_count_6 (by rw [c6]; decide) (by rw [c6]; decide) (by rw [c6]; rfl) (by decide) ?_
                have h := (h.2.2.2.2.2.2.1) c6
                refine lv_aload_n hx hb dX10_count_138 rfl (lv_at hl 0 rfl) ?_
                refine va_get (D := G.1) (ci := 10) (v := .ref (a 1)) (C := RX10) (T := TX10) (N := 15) hx hb hts iX10_count_X10 hown hKn.k hP 0 rfl rfl 1 (by decide) (hts _ lX10_count_f7) (fun _ h9 => h9) rfl dX10_count_139 ?_
                refine lv_bipush (v := (10 : Int32)) hx hb dX10_count_142 (by decide) ?_
                refine va_iald hx hb hKn.k hP 1 0 rfl rfl (by unfold vp_in; decide) dX10_count_144 ?_
                exact hret _ _ _ _ _ _ h hP hD hS dX10_count_145
              · skip
                by_cases c7 : p0 = (7 : Int32)
                · refine lv_tableIn (tgt := 146) hx hb dX10_count_6 (by rw [c7]; decide) (by rw [c7]; decide) (by rw [c7]; rfl) (by decide) ?_
                  have h := (h.2.2.2.2.2.2.2.1) c7
                  refine lv_aload_n hx hb dX10_count_146 rfl (lv_at hl 0 rfl) ?_
                  refine qc_vi (As := []) (rest := []) ⟨hx, hb, hml, hown, hts⟩ (mX10_capacity l G _ _ a q2 _ ) (cwV 0 hts gX10_count_X10_capacity rfl rfl rfl (by decide +kernel) ⟨Nat.le_of_ble_eq_true rfl, Nat.le_of_ble_eq_true rfl⟩) hP hD hS hA hKn 0 10 rfl rfl rfl h rfl hl.1 rfl (Nat.le_of_ble_eq_true rfl) dX10_count_147 ⟨Nat.zero_le _, Nat.zero_le _⟩ (fun r7 q8 H locs h hP hD hS => ?_)
                  have hP : va_P G.1 vwCl (wM G a q8 ++ R) H := hP
                  have hD : va_D A (wM G a q8 ++ R) := hD
                  exact hret _ _ _ _ _ _ h hP hD hS dX10_count_150
                · skip
                  by_cases c8 : p0 = (8 : Int32)
                  · refine lv_tableIn (tgt := 151) hx hb dX10_count_6 (by rw [c8]; decide) (by rw [c8]; decide) (by rw [c8]; rfl) (by decide) ?_
                    have h := (h.2.2.2.2.2.2.2.2.1) c8
                    refine lv_aload_n hx hb dX10_count_151 rfl (lv_at hl 0 rfl) ?_
                    refine va_get (D := G.1) (ci := 10) (v := .ref (a 1)) (C := RX10) (T := TX10) (N := 15) hx hb hts iX10_count_X10 hown hKn.k hP 0 rfl rfl 1 (by decide) (hts _ lX10_count_f7) (fun _ h9 => h9) rfl dX10_count_152 ?_
                    refine lv_bipush (v := (11 : Int32)) hx hb dX10_count_155 (by decide) ?_
                    refine va_iald hx hb hKn.k hP 1 0 rfl rfl (by unfold vp_in; decide) dX10_count_157 ?_
                    exact hret _ _ _ _ _ _ h hP hD hS dX10_count_158
                  · skip
                    by_cases c9 : p0 = (9 : Int32)
                    · refine lv_tableIn (tgt := 159) hx hb dX10_count_6 (by rw [c9]; decide) (by rw [c9]; decide) (by rw [c9]; rfl) (by decide) ?_
                      have h := (h.2.2.2.2.2.2.2.2.2.1) c9
                      refine lv_aload_n hx hb dX10_count_159 rfl (lv_at hl 0 rfl) ?_
                      refine va_get (D := G.1) (ci := 10) (v := .ref (a 1)) (C := RX10) (T := TX10) (N := 15) hx hb hts iX10_count_X10 hown hKn.k hP 0 rfl rfl 1 (by decide) (hts _ lX10_count_f7) (fun _ h9 => h9) rfl dX10_count_160 ?_
                      refine lv_bipush (v := (12 : Int32)) hx hb dX10_count_163 (by decide) ?_
                      refine va_iald hx hb hKn.k hP 1 0 rfl rfl (by unfold vp_in; decide) dX10_count_165 ?_
                      exact hret _ _ _ _ _ _ h hP hD hS dX10_count_166
                    · skip
                      by_cases c10 : p0 = (10 : Int32)
                      · refine lv_tableIn (tgt := 167) hx hb dX10_count_6 (by rw [c10]; decide) (by rw [c10]; decide) (by rw [c10]; rfl) (by decide) ?_
                        have h := (h.2.2.2.2.2.2.2.2.2.2.1) c10
                        refine lv_aload_n hx hb dX10_count_167 rfl (lv_at hl 0 rfl) ?_
                        refine va_get (D := G.1) (ci := 10) (v := .ref (a 1)) (C := RX10) (T := TX10) (N := 15) hx hb hts iX10_count_X10 hown hKn.k hP 0 rfl rfl 1 (by decide) (hts _ lX10_count_f7) (fun _ h9 => h9) rfl dX10_count_168 ?_
                        refine lv_bipush (v := (13 : Int32)) hx hb dX10_count_171 (by decide) ?_
                        refine va_iald hx hb hKn.k hP 1 0 rfl rfl (by unfold vp_in; decide) dX10_count_173 ?_
                        exact hret _ _ _ _ _ _ h hP hD hS dX10_count_174
                      · skip
                        by_cases c11 : p0 = (11 : Int32)
                        · refine lv_tableIn (tgt := 185) hx hb dX10_count_6 (by rw [c11]; decide) (by rw [c11]; decide) (by rw [c11]; rfl) (by decide) ?_
                          have h := (h.2.2.2.2.2.2.2.2.2.2.2.1) c11
                          exact kX10_count_b185 hx hb hml hown hts hA hKn hret q2 p0 _ _ _ h hP hD hS (lv_sub hl [0, 1] rfl)
                        · skip
                          by_cases c12 : p0 = (12 : Int32)
                          · refine lv_tableIn (tgt := 185) hx hb dX10_count_6 (by rw [c12]; decide) (by rw [c12]; decide) (by rw [c12]; rfl) (by decide) ?_
                            have h := (h.2.2.2.2.2.2.2.2.2.2.2.2.1) c12
                            exact kX10_count_b185 hx hb hml hown hts hA hKn hret q2 p0 _ _ _ h hP hD hS (lv_sub hl [0, 1] rfl)
                          · skip
                            by_cases c13 : p0 = (13 : Int32)
                            · refine lv_tableIn (tgt := 185) hx hb dX10_count_6 (by rw [c13]; decide) (by rw [c13]; decide) (by rw [c13]; rfl) (by decide) ?_
                              have h := (h.2.2.2.2.2.2.2.2.2.2.2.2.2.1) c13
                              exact kX10_count_b185 hx hb hml hown hts hA hKn hret q2 p0 _ _ _ h hP hD hS (lv_sub hl [0, 1] rfl)
                            · skip
                              by_cases c14 : p0 = (14 : Int32)
                              · refine lv_tableIn (tgt := 185) hx hb dX10_count_6 (by rw [c14]; decide) (by rw [c14]; decide) (by rw [c14]; rfl) (by decide) ?_
                                have h := (h.2.2.2.2.2.2.2.2.2.2.2.2.2.2.1) c14
                                exact kX10_count_b185 hx hb hml hown hts hA hKn hret q2 p0 _ _ _ h hP hD hS (lv_sub hl [0, 1] rfl)
                              · skip
                                by_cases c15 : p0 = (15 : Int32)
                                · refine lv_tableIn (tgt := 185) hx hb dX10_count_6 (by rw [c15]; decide) (by rw [c15]; decide) (by rw [c15]; rfl) (by decide) ?_
                                  have h := (h.2.2.2.2.2.2.2.2.2.2.2.2.2.2.2.1) c15
                                  exact kX10_count_b185 hx hb hml hown hts hA hKn hret q2 p0 _ _ _ h hP hD hS (lv_sub hl [0, 1] rfl)
                                · skip
                                  by_cases c16 : p0 = (16 : Int32)
                                  · refine lv_tableIn (tgt := 185) hx hb dX10_count_6 (by rw [c16]; decide) (by rw [c16]; decide) (by rw [c16]; rfl) (by decide) ?_
                                    have h := (h.2.2.2.2.2.2.2.2.2.2.2.2.2.2.2.2.1) c16
                                    exact kX10_count_b185 hx hb hml hown hts hA hKn hret q2 p0 _ _ _ h hP hD hS (lv_sub hl [0, 1] rfl)
                                  · skip
                                    by_cases c17 : p0 = (17 : Int32)
                                    · refine lv_tableIn (tgt := 175) hx hb dX10_count_6 (by rw [c17]; decide) (by rw [c17]; decide) (by rw [c17]; rfl) (by decide) ?_
                                      have h := (h.2.2.2.2.2.2.2.2.2.2.2.2.2.2.2.2.2.1) c17
                                      refine lv_aload_n hx hb dX10_count_175 rfl (lv_at hl 0 rfl) ?_
                                      refine va_get (D := G.1) (ci := 10) (v := .int (q2 0 8)) (C := RX10) (T := TX10) (N := 15) hx hb hts iX10_count_X10 hown hKn.k hP 0 rfl rfl 8 (by decide) (hts _ lX10_count_f144) (fun _ h9 => h9) rfl dX10_count_176 ?_
                                      exact hret _ _ _ _ _ _ h hP hD hS dX10_count_179
                                    · skip
                                      by_cases c18 : p0 = (18 : Int32)
                                      · refine lv_tableIn (tgt := 180) hx hb dX10_count_6 (by rw [c18]; decide) (by rw [c18]; decide) (by rw [c18]; rfl) (by decide) ?_
                                        have h := (h.2.2.2.2.2.2.2.2.2.2.2.2.2.2.2.2.2.2.1) c18
                                        refine lv_aload_n hx hb dX10_count_180 rfl (lv_at hl 0 rfl) ?_
                                        refine va_get (D := G.1) (ci := 10) (v := .int (q2 0 4)) (C := RX10) (T := TX10) (N := 15) hx hb hts iX10_count_X10 hown hKn.k hP 0 rfl rfl 4 (by decide) (hts _ lX10_count_f36) (fun _ h9 => h9) rfl dX10_count_181 ?_
                                        exact hret _ _ _ _ _ _ h hP hD hS dX10_count_184
                                      · skip
                                        refine lv_tableOut (tgt := 185) hx hb dX10_count_6 (by have gc0 : ¬ (p0).toInt = 0 := q_ti _ (0) c0; have gc1 : ¬ (p0).toInt = 1 := q_ti _ (1) c1; have gc2 : ¬ (p0).toInt = 2 := q_ti _ (2) c2; have gc3 : ¬ (p0).toInt = 3 := q_ti _ (3) c3; have gc4 : ¬ (p0).toInt = 4 := q_ti _ (4) c4; have gc5 : ¬ (p0).toInt = 5 := q_ti _ (5) c5; have gc6 : ¬ (p0).toInt = 6 := q_ti _ (6) c6; have gc7 : ¬ (p0).toInt = 7 := q_ti _ (7) c7; have gc8 : ¬ (p0).toInt = 8 := q_ti _ (8) c8; have gc9 : ¬ (p0).toInt = 9 := q_ti _ (9) c9; have gc10 : ¬ (p0).toInt = 10 := q_ti _ (10) c10; have gc11 : ¬ (p0).toInt = 11 := q_ti _ (11) c11; have gc12 : ¬ (p0).toInt = 12 := q_ti _ (12) c12; have gc13 : ¬ (p0).toInt = 13 := q_ti _ (13) c13; have gc14 : ¬ (p0).toInt = 14 := q_ti _ (14) c14; have gc15 : ¬ (p0).toInt = 15 := q_ti _ (15) c15; have gc16 : ¬ (p0).toInt = 16 := q_ti _ (16) c16; have gc17 : ¬ (p0).toInt = 17 := q_ti _ (17) c17; have gc18 : ¬ (p0).toInt = 18 := q_ti _ (18) c18; omega) (by decide) ?_
                                        have h := h.2.2.2.2.2.2.2.2.2.2.2.2.2.2.2.2.2.2.2 c0 c1 c2 c3 c4 c5 c6 c7 c8 c9 c10 c11 c12 c13 c14 c15 c16 c17 c18
                                        exact kX10_count_b185 hx hb hml hown hts hA hKn hret q2 p0 _ _ _ h hP hD hS (lv_sub hl [0, 1] rfl)
abbrev rmX10_then : Room := { frames := 5, cells := 0, slots := 0, locals := 113 }
theorem lX10_then_c153 : Cond.constant RX10 153 (1000000) ∈ wsX10_then := by decide +kernel
theorem lX10_then_f32 : Cond.fieldLink RX10 32 "QuarryBlendsModel" "thrown" "I" ∈ wsX10_then := by decide +kernel
theorem lX10_then_f7 : Cond.fieldLink RX10 7 "QuarryBlendsModel" "s" "[I" ∈ wsX10_then := by decide +kernel
theorem iX10_then_X10 : ∀ w ∈ wsX100, w ∈ wsX10_then := by decide +kernel
set_option maxHeartbeats 4000000 in
set_option maxRecDepth 100000 in
theorem kX10_then_b24 {p : Program} {l : Launch} {e : Env} {s : State} {m : MethodId} {args : Array Value} {below : List Frame} {meth : Method} {c : Code} {G : qG} {A : Nat → Prop} {Qf : State → Prop} {R : va_W} {a : Nat → Nat} {k : Int32 → qS → Prop} (hx : p.tables.exec = Jvm.exec) (hb : c.code = cX10_then) (hml : c.maxLocals = 6) (hown : s.vm.findClass RX10 = some m.cls) (hts : ∀ w ∈ wsX10_then, w.before args s = true) (hA : ∀ q : Nat, s.heap.size ≤ q → A q) (hKn : qKn G A s s.heap) (hret : ∀ (r : Int32) (q : qS) (H : Heap) (locs : List Loc) (ls : Array Slot) (pc : Nat), k r q → va_P G.1 vwCl (wM G a q ++ R) H → va_D A (wM G a q ++ R) → va_S A s.heap H locs → decode cX10_then pc = .ok (.ireturn, 1) → W p l e rmX10_then s m args below meth c H locs 0 0 Qf (F0 m pc ls [.int r])) : ∀ (q : qS) (H : Heap) (locs : List Loc) (ls : Array Slot), wX10_then_b24 k q → va_P G.1 vwCl (wM G a q ++ R) H → va_D A (wM G a q ++ R) → va_S A s.heap H locs → lv_has ls 6 [] → W p l e rmX10_then s m args below meth c H locs 0 0 Qf (F0 m 24 ls []) := by
  intro q H locs ls h hP hD hS hl
  unfold wX10_then_b24 at h
  refine lv_bipush (v := (-2 : Int32)) hx hb dX10_then_24 (by decide) ?_
  exact hret _ _ _ _ _ _ h hP hD hS dX10_then_26
set_option maxHeartbeats 4000000 in
set_option maxRecDepth 100000 in
theorem kX10_then_b91 {p : Program} {l : Launch} {e : Env} {s : State} {m : MethodId} {args : Array Value} {below : List Frame} {meth : Method} {c : Code} {G : qG} {A : Nat → Prop} {Qf : State → Prop} {R : va_W} {a : Nat → Nat} {k : Int32 → qS → Prop} (hx : p.tables.exec = Jvm.exec) (hb : c.code = cX10_then) (hml : c.maxLocals = 6) (hown : s.vm.findClass RX10 = some m.cls) (hts : ∀ w ∈ wsX10_then, w.before args s = true) (hA : ∀ q : Nat, s.heap.size ≤ q → A q) (hKn : qKn G A s s.heap) (hret : ∀ (r : Int32) (q : qS) (H : Heap) (locs : List Loc) (ls : Array Slot) (pc : Nat), k r q → va_P G.1 vwCl (wM G a q ++ R) H → va_D A (wM G a q ++ R) → va_S A s.heap H locs → decode cX10_then pc = .ok (.ireturn, 1) → W p l e rmX10_then s m args below meth c H locs 0 0 Qf (F0 m pc ls [.int r])) : ∀ (q : qS) (z0 : Int32) (H : Heap) (locs : List Loc) (ls : Array Slot), wX10_then_b91 k q z0 → va_P G.1 vwCl (wM G a q ++ R) H → va_D A (wM G a q ++ R) → va_S A s.heap H locs → lv_has ls 6 [] → W p l e rmX10_then s m args below meth c H locs 0 0 Qf (F0 m 91 ls [.int z0]) := by
  intro q z0 H locs ls h hP hD hS hl
  unfold wX10_then_b91 at h
  exact hret _ _ _ _ _ _ h hP hD hS dX10_then_91
set_option maxHeartbeats 4000000 in
set_option maxRecDepth 100000 in
theorem mX10_then (l : Launch) (G : qG) (k : Int32 → qS → Prop) (R : va_W) (a : Nat → Nat) (q : qS) (sz : Nat) (p0 : Int32) (p1 : Int32) : Met l yX10_then wsX10_then rmX10_then (qPc G [.ref (a 0), .int p0, .int p1] (wM G a q ++ R) sz (wX10_then k q p0 p1)) (qQi G (wM G a q ++ R) sz (fun (r : Int32) (u : qS) => k r u) (fun (u : qS) => wM G a u ++ R)) 0 0 (va_A (wM G a q ++ R) sz) := by
  refine Met.ofW (cc := cX10_then) (maxL := 6) (ret := (some .int)) (by decide) rfl ?_
  intro p e s m args below meth c s₁ B hml hv
  obtain ⟨rfl, hsz, hP, hD0, hKn0, h⟩ := hv
  have hx := B.exec
  have hb := B.bytes
  have hr := B.returns
  have hts := atoms_spec (ws := wsX10_then) B.pre
  have hown : s.vm.findClass RX10 = some m.cls := findClass_of_methodNamed B.named
  have hlocks := B.notSynchronized
  subst hsz
  have hD := hD0.self (sz := s.heap.size)
  generalize hAe : va_A (wM G a q ++ R) s.heap.size = A at hD hKn0 ⊢
  have hA : ∀ q : Nat, s.heap.size ≤ q → A q := fun q h => by rw [← hAe]; exact Or.inr h
  have hKn : qKn G A s s.heap := hKn0
  have hS : va_S A s.heap s.heap [] := va_S.rf
  have hret : ∀ (r : Int32) (q' : qS) (H : Heap) (locs : List Loc) (ls : Array Slot) (pc : Nat), k r q' → va_P G.1 vwCl (wM G a q' ++ R) H → va_D A (wM G a q' ++ R) → va_S A s.heap H locs → decode cX10_then pc = .ok (.ireturn, 1) → W p l e rmX10_then s m #[.ref (a 0), .int p0, .int p1] below meth c H locs 0 0 (MQ below (qQi G (wM G a q ++ R) s.heap.size (fun (r : Int32) (u : qS) => k r u) (fun (u : qS) => wM G a u ++ R)) #[.ref (a 0), .int p0, .int p1] s 0 0 A) (F0 m pc ls [.int r]) := fun r q' H locs ls pc hk hP hD hS hd => W.iret hx hb hr (fun t ht hW => q_ri (u := (q' : qS)) hAe hk hP hD hS ht) hS.2.2 hd
  have hl := lv_entry ([.ref (a 0), .int p0, .int p1]) (n := 6) (Nat.le_of_ble_eq_true rfl)
  rw [lg_entry_eq]
  generalize (lg_sl ([.ref (a 0), .int p0, .int p1]) ++ List.replicate (6 - (lg_sl ([.ref (a 0), .int p0, .int p1])).length) Slot.unset).toArray = ls at hl ⊢
  have hl : lv_has ls 6 [(0, .ref (a 0)), (1, .int p0), (2, .int p1)] := hl
  unfold wX10_then at h
  show W p l e rmX10_then s m #[.ref (a 0), .int p0, .int p1] below meth c s.heap [] 0 0 _ _
  refine lv_aload_n hx hb dX10_then_0 rfl (lv_at hl 0 rfl) ?_
  refine lv_iconst (v := (0 : Int32)) hx hb dX10_then_1 (by decide) ?_
  refine va_put (D := G.1) (ci := 10) (v := .int (0 : Int32)) (ty := .int) (C := RX10) (T := TX10) (N := 15) hx hb hts iX10_then_X10 tyX10 tyX10_ok nmX10 hown hKn.k hP hD hS 0 rfl rfl 0 (by decide) (hts _ lX10_then_f32) (fun _ h9 => h9) rfl (by decide +kernel) rfl rfl (Nat.le_of_ble_eq_true rfl) dX10_then_2 (fun H locs hP hD hS => ?_)
  obtain ⟨q1, eq1⟩ : ∃ z : qS, z = up2 q 0 0 (0 : Int32) := ⟨_, rfl⟩
  have hP : va_P G.1 vwCl (wM G a q1 ++ R) H := by rw [eq1]; exact hP
  have hD : va_D A (wM G a q1 ++ R) := by rw [eq1]; exact hD
  have h := h q1 eq1
  refine lv_iload_n hx hb dX10_then_5 rfl (lv_at hl 1 rfl) ?_
  refine lv_iconst (v := (1 : Int32)) hx hb dX10_then_6 (by decide) ?_
  refine lv_bipush (v := (30 : Int32)) hx hb dX10_then_7 (by decide) ?_
  refine qc_si (As := [.int p0, .int (1 : Int32), .int (30 : Int32)]) (rest := []) ⟨hx, hb, hml, hown, hts⟩ (mX10_in l G _ _ _ p0 (1 : Int32) (30 : Int32)) (cwS 3 hts gX10_then_X10_in rfl rfl rfl (by decide +kernel) ⟨Nat.le_of_ble_eq_true rfl, Nat.le_of_ble_eq_true rfl⟩) hP hD hS hA hKn h rfl hl.1 rfl (Nat.le_of_ble_eq_true rfl) dX10_then_9 ⟨Nat.zero_le _, Nat.zero_le _⟩ (fun r2 _ H locs h hP hD hS => ?_)
  have hP : va_P G.1 vwCl (wM G a q1 ++ R) H := hP
  have hD : va_D A (wM G a q1 ++ R) := hD
  refine lv_if_eq (tgt := 24) hx hb dX10_then_12 (by decide) (fun c1 => ?_) (fun c1 => ?_)
  · have h := h.1 c1
    exact kX10_then_b24 hx hb hml hown hts hA hKn hret q1 _ _ _ h hP hD hS (lv_sub hl [] rfl)
  · have h := h.2 c1
    refine lv_iload_n hx hb dX10_then_15 rfl (lv_at hl 2 rfl) ?_
    refine lv_iconst (v := (0 : Int32)) hx hb dX10_then_16 (by decide) ?_
    refine lv_iconst (v := (1 : Int32)) hx hb dX10_then_17 (by decide) ?_
    refine qc_si (As := [.int p1, .int (0 : Int32), .int (1 : Int32)]) (rest := []) ⟨hx, hb, hml, hown, hts⟩ (mX10_in l G _ _ _ p1 (0 : Int32) (1 : Int32)) (cwS 3 hts gX10_then_X10_in rfl rfl rfl (by decide +kernel) ⟨Nat.le_of_ble_eq_true rfl, Nat.le_of_ble_eq_true rfl⟩) hP hD hS hA hKn h rfl hl.1 rfl (Nat.le_of_ble_eq_true rfl) dX10_then_18 ⟨Nat.zero_le _, Nat.zero_le _⟩ (fun r3 _ H locs h hP hD hS => ?_)
    have hP : va_P G.1 vwCl (wM G a q1 ++ R) H := hP
    have hD : va_D A (wM G a q1 ++ R) := hD
    refine lv_if_ne (tgt := 27) hx hb dX10_then_21 (by decide) (fun c1 => ?_) (fun c1 => ?_)
    · have h := h.1 c1
      refine lv_aload_n hx hb dX10_then_27 rfl (lv_at hl 0 rfl) ?_
      refine qc_vv (As := []) (rest := []) ⟨hx, hb, hml, hown, hts⟩ (mX10_putAside l G _ _ a q1 _ ) (cwV 0 hts gX10_then_X10_putAside rfl rfl rfl (by decide +kernel) ⟨Nat.le_of_ble_eq_true rfl, Nat.le_of_ble_eq_true rfl⟩) hP hD hS hA hKn 0 10 rfl rfl rfl h rfl hl.1 rfl (Nat.le_of_ble_eq_true rfl) dX10_then_28 ⟨Nat.zero_le _, Nat.zero_le _⟩ (fun q5 H locs h hP hD hS => ?_)
      have hP : va_P G.1 vwCl (wM G a q5 ++ R) H := hP
      have hD : va_D A (wM G a q5 ++ R) := hD
      refine lv_aload_n hx hb dX10_then_31 rfl (lv_at hl 0 rfl) ?_
      refine va_get (D := G.1) (ci := 10) (v := .ref (a 1)) (C := RX10) (T := TX10) (N := 15) hx hb hts iX10_then_X10 hown hKn.k hP 0 rfl rfl 1 (by decide) (hts _ lX10_then_f7) (fun _ h9 => h9) rfl dX10_then_32 ?_
      refine lv_bipush (v := (12 : Int32)) hx hb dX10_then_35 (by decide) ?_
      refine va_iald hx hb hKn.k hP 1 0 rfl rfl (by unfold vp_in; decide) dX10_then_37 ?_
      refine lv_aload_n hx hb dX10_then_38 rfl (lv_at hl 0 rfl) ?_
      refine va_get (D := G.1) (ci := 10) (v := .ref (a 1)) (C := RX10) (T := TX10) (N := 15) hx hb hts iX10_then_X10 hown hKn.k hP 0 rfl rfl 1 (by decide) (hts _ lX10_then_f7) (fun _ h9 => h9) rfl dX10_then_39 ?_
      refine lv_bipush (v := (13 : Int32)) hx hb dX10_then_42 (by decide) ?_
      refine va_iald hx hb hKn.k hP 1 0 rfl rfl (by unfold vp_in; decide) dX10_then_44 ?_
      refine lv_isub hx hb dX10_then_45 ?_
      refine lv_topi (fun y6 ey6 => ?_)
      have h := h y6 ey6
      refine lv_istore_n (lv' := [(3, .int y6), (0, .ref (a 0)), (1, .int p0), (2, .int p1)]) hx hb dX10_then_46 rfl hl (by decide) rfl (fun ls hl => ?_)
      refine lv_aload_n hx hb dX10_then_47 rfl (lv_at hl 1 rfl) ?_
      refine lv_iload_n hx hb dX10_then_48 rfl (lv_at hl 2 rfl) ?_
      refine qc_vi (As := [.int p0]) (rest := []) ⟨hx, hb, hml, hown, hts⟩ (mX10_days l G _ _ a q5 _ p0) (cwV 1 hts gX10_then_X10_days rfl rfl rfl (by decide +kernel) ⟨Nat.le_of_ble_eq_true rfl, Nat.le_of_ble_eq_true rfl⟩) hP hD hS hA hKn 0 10 rfl rfl rfl h rfl hl.1 rfl (Nat.le_of_ble_eq_true rfl) dX10_then_49 ⟨Nat.zero_le _, Nat.zero_le _⟩ (fun r7 q8 H locs h hP hD hS => ?_)
      have hP : va_P G.1 vwCl (wM G a q8 ++ R) H := hP
      have hD : va_D A (wM G a q8 ++ R) := hD
      refine lv_istore (lv' := [(4, .int r7), (3, .int y6), (0, .ref (a 0)), (1, .int p0), (2, .int p1)]) hx hb dX10_then_52 hl (by decide) rfl (fun ls hl => ?_)
      refine lv_aload_n hx hb dX10_then_54 rfl (lv_at hl 2 rfl) ?_
      refine va_get (D := G.1) (ci := 10) (v := .ref (a 1)) (C := RX10) (T := TX10) (N := 15) hx hb hts iX10_then_X10 hown hKn.k hP 0 rfl rfl 1 (by decide) (hts _ lX10_then_f7) (fun _ h9 => h9) rfl dX10_then_55 ?_
      refine lv_bipush (v := (12 : Int32)) hx hb dX10_then_58 (by decide) ?_
      refine va_iald hx hb hKn.k hP 1 0 rfl rfl (by unfold vp_in; decide) dX10_then_60 ?_
      refine lv_aload_n hx hb dX10_then_61 rfl (lv_at hl 2 rfl) ?_
      refine va_get (D := G.1) (ci := 10) (v := .ref (a 1)) (C := RX10) (T := TX10) (N := 15) hx hb hts iX10_then_X10 hown hKn.k hP 0 rfl rfl 1 (by decide) (hts _ lX10_then_f7) (fun _ h9 => h9) rfl dX10_then_62 ?_
      refine lv_bipush (v := (13 : Int32)) hx hb dX10_then_65 (by decide) ?_
      refine va_iald hx hb hKn.k hP 1 0 rfl rfl (by unfold vp_in; decide) dX10_then_67 ?_
      refine lv_isub hx hb dX10_then_68 ?_
      refine lv_iload_n hx hb dX10_then_69 rfl (lv_at hl 1 rfl) ?_
      refine lv_isub hx hb dX10_then_70 ?_
      refine lv_topi (fun y9 ey9 => ?_)
      have h := h y9 ey9
      refine lv_istore (lv' := [(5, .int y9), (4, .int r7), (3, .int y6), (0, .ref (a 0)), (1, .int p0), (2, .int p1)]) hx hb dX10_then_71 hl (by decide) rfl (fun ls hl => ?_)
      refine lv_aload_n hx hb dX10_then_73 rfl (lv_at hl 3 rfl) ?_
      refine qc_vv (As := []) (rest := []) ⟨hx, hb, hml, hown, hts⟩ (mX10_takeBack l G _ _ a q8 _ ) (cwV 0 hts gX10_then_X10_takeBack rfl rfl rfl (by decide +kernel) ⟨Nat.le_of_ble_eq_true rfl, Nat.le_of_ble_eq_true rfl⟩) hP hD hS hA hKn 0 10 rfl rfl rfl h rfl hl.1 rfl (Nat.le_of_ble_eq_true rfl) dX10_then_74 ⟨Nat.zero_le _, Nat.zero_le _⟩ (fun q11 H locs h hP hD hS => ?_)
      have hP : va_P G.1 vwCl (wM G a q11 ++ R) H := hP
      have hD : va_D A (wM G a q11 ++ R) := hD
      refine lv_iload_n hx hb dX10_then_77 rfl (lv_at hl 5 rfl) ?_
      refine lv_if_ne (tgt := 86) hx hb dX10_then_78 (by decide) (fun c1 => ?_) (fun c1 => ?_)
      · have h := h.1 c1
        refine lv_iload hx hb dX10_then_86 (lv_at hl 0 rfl) ?_
        refine lv_ldc (v := (1000000 : Int32)) hx hb hown (hts _ lX10_then_c153) dX10_then_88 ?_
        refine lv_iadd hx hb dX10_then_90 ?_
        exact kX10_then_b91 hx hb hml hown hts hA hKn hret q11 (y9 + (1000000 : Int32)) _ _ _ h hP hD hS (lv_sub hl [] rfl)
      · have h := h.2 c1
        refine lv_iload hx hb dX10_then_81 (lv_at hl 1 rfl) ?_
        refine lv_goto (tgt := 91) hx hb dX10_then_83 (by decide) ?_
        exact kX10_then_b91 hx hb hml hown hts hA hKn hret q11 r7 _ _ _ h hP hD hS (lv_sub hl [] rfl)
    · have h := h.2 c1
      exact kX10_then_b24 hx hb hml hown hts hA hKn hret q1 _ _ _ h hP hD hS (lv_sub hl [] rfl)
abbrev rmX10_bestGap : Room := { frames := 5, cells := 0, slots := 0, locals := 113 }
theorem lX10_bestGap_f32 : Cond.fieldLink RX10 32 "QuarryBlendsModel" "thrown" "I" ∈ wsX10_bestGap := by decide +kernel
theorem lX10_bestGap_f7 : Cond.fieldLink RX10 7 "QuarryBlendsModel" "s" "[I" ∈ wsX10_bestGap := by decide +kernel
theorem iX10_bestGap_X10 : ∀ w ∈ wsX100, w ∈ wsX10_bestGap := by decide +kernel
set_option maxHeartbeats 4000000 in
set_option maxRecDepth 100000 in
theorem kX10_bestGap_b24 {p : Program} {l : Launch} {e : Env} {s : State} {m : MethodId} {args : Array Value} {below : List Frame} {meth : Method} {c : Code} {G : qG} {A : Nat → Prop} {Qf : State → Prop} {R : va_W} {a : Nat → Nat} {k : Int32 → qS → Prop} (hx : p.tables.exec = Jvm.exec) (hb : c.code = cX10_bestGap) (hml : c.maxLocals = 8) (hown : s.vm.findClass RX10 = some m.cls) (hts : ∀ w ∈ wsX10_bestGap, w.before args s = true) (hA : ∀ q : Nat, s.heap.size ≤ q → A q) (hKn : qKn G A s s.heap) (hret : ∀ (r : Int32) (q : qS) (H : Heap) (locs : List Loc) (ls : Array Slot) (pc : Nat), k r q → va_P G.1 vwCl (wM G a q ++ R) H → va_D A (wM G a q ++ R) → va_S A s.heap H locs → decode cX10_bestGap pc = .ok (.ireturn, 1) → W p l e rmX10_bestGap s m args below meth c H locs 0 0 Qf (F0 m pc ls [.int r])) : ∀ (q : qS) (H : Heap) (locs : List Loc) (ls : Array Slot), wX10_bestGap_b24 k q → va_P G.1 vwCl (wM G a q ++ R) H → va_D A (wM G a q ++ R) → va_S A s.heap H locs → lv_has ls 8 [] → W p l e rmX10_bestGap s m args below meth c H locs 0 0 Qf (F0 m 24 ls []) := by
  intro q H locs ls h hP hD hS hl
  unfold wX10_bestGap_b24 at h
  refine lv_bipush (v := (-2 : Int32)) hx hb dX10_bestGap_24 (by decide) ?_
  exact hret _ _ _ _ _ _ h hP hD hS dX10_bestGap_26
set_option maxHeartbeats 4000000 in
set_option maxRecDepth 100000 in
theorem kX10_bestGap_b114 {p : Program} {l : Launch} {e : Env} {s : State} {m : MethodId} {args : Array Value} {below : List Frame} {meth : Method} {c : Code} {G : qG} {A : Nat → Prop} {Qf : State → Prop} {R : va_W} {a : Nat → Nat} {k : Int32 → qS → Prop} (hx : p.tables.exec = Jvm.exec) (hb : c.code = cX10_bestGap) (hml : c.maxLocals = 8) (hown : s.vm.findClass RX10 = some m.cls) (hts : ∀ w ∈ wsX10_bestGap, w.before args s = true) (hA : ∀ q : Nat, s.heap.size ≤ q → A q) (hKn : qKn G A s s.heap) (hret : ∀ (r : Int32) (q : qS) (H : Heap) (locs : List Loc) (ls : Array Slot) (pc : Nat), k r q → va_P G.1 vwCl (wM G a q ++ R) H → va_D A (wM G a q ++ R) → va_S A s.heap H locs → decode cX10_bestGap pc = .ok (.ireturn, 1) → W p l e rmX10_bestGap s m args below meth c H locs 0 0 Qf (F0 m pc ls [.int r])) {kb40 : qS → Int32 → Int32 → Int32 → Int32 → Int32 → Prop} (hkb40 : ∀ (q : qS) (x1 : Int32) (x2 : Int32) (x3 : Int32) (x4 : Int32) (x5 : Int32) (H : Heap) (locs : List Loc) (ls : Array Slot), kb40 q x1 x2 x3 x4 x5 → va_P G.1 vwCl (wM G a q ++ R) H → va_D A (wM G a q ++ R) → va_S A s.heap H locs → lv_has ls 8 [(0, .ref (a 0)), (1, .int x1), (2, .int x2), (3, .int x3), (4, .int x4), (5, .int x5)] → W p l e rmX10_bestGap s m args below meth c H locs 0 0 Qf (F0 m 40 ls [])) : ∀ (q : qS) (x1 : Int32) (x2 : Int32) (x3 : Int32) (x5 : Int32) (z0 : Int32) (H : Heap) (locs : List Loc) (ls : Array Slot), wX10_bestGap_b114 k kb40 q x1 x2 x3 x5 z0 → va_P G.1 vwCl (wM G a q ++ R) H → va_D A (wM G a q ++ R) → va_S A s.heap H locs → lv_has ls 8 [(0, .ref (a 0)), (1, .int x1), (2, .int x2), (3, .int x3), (5, .int x5)] → W p l e rmX10_bestGap s m args below meth c H locs 0 0 Qf (F0 m 114 ls [.int z0]) := by
  intro q x1 x2 x3 x5 z0 H locs ls h hP hD hS hl
  unfold wX10_bestGap_b114 at h
  refine lv_istore (lv' := [(4, .int z0), (0, .ref (a 0)), (1, .int x1), (2, .int x2), (3, .int x3), (5, .int x5)]) hx hb dX10_bestGap_114 hl (by decide) rfl (fun ls hl => ?_)
  obtain ⟨y1, ey1⟩ : ∃ z : Int32, z = x5 + (1 : Int32) := ⟨_, rfl⟩
  have h := h y1 ey1
  refine lv_iinc (v := y1) (lv' := [(5, .int y1), (4, .int z0), (0, .ref (a 0)), (1, .int x1), (2, .int x2), (3, .int x3)]) hx hb dX10_bestGap_116 hl (k := 5) rfl (by rw [ey1]; rfl) (by decide) rfl (fun ls hl => ?_)
  refine lv_goto (tgt := 40) hx hb dX10_bestGap_119 (by decide) ?_
  exact hkb40 q x1 x2 x3 z0 y1 _ _ _ h hP hD hS (lv_sub hl [2, 3, 4, 5, 1, 0] rfl)
set_option maxHeartbeats 4000000 in
set_option maxRecDepth 100000 in
theorem kX10_bestGap_b99 {p : Program} {l : Launch} {e : Env} {s : State} {m : MethodId} {args : Array Value} {below : List Frame} {meth : Method} {c : Code} {G : qG} {A : Nat → Prop} {Qf : State → Prop} {R : va_W} {a : Nat → Nat} {k : Int32 → qS → Prop} (hx : p.tables.exec = Jvm.exec) (hb : c.code = cX10_bestGap) (hml : c.maxLocals = 8) (hown : s.vm.findClass RX10 = some m.cls) (hts : ∀ w ∈ wsX10_bestGap, w.before args s = true) (hA : ∀ q : Nat, s.heap.size ≤ q → A q) (hKn : qKn G A s s.heap) (hret : ∀ (r : Int32) (q : qS) (H : Heap) (locs : List Loc) (ls : Array Slot) (pc : Nat), k r q → va_P G.1 vwCl (wM G a q ++ R) H → va_D A (wM G a q ++ R) → va_S A s.heap H locs → decode cX10_bestGap pc = .ok (.ireturn, 1) → W p l e rmX10_bestGap s m args below meth c H locs 0 0 Qf (F0 m pc ls [.int r])) {kb40 : qS → Int32 → Int32 → Int32 → Int32 → Int32 → Prop} (hkb40 : ∀ (q : qS) (x1 : Int32) (x2 : Int32) (x3 : Int32) (x4 : Int32) (x5 : Int32) (H : Heap) (locs : List Loc) (ls : Array Slot), kb40 q x1 x2 x3 x4 x5 → va_P G.1 vwCl (wM G a q ++ R) H → va_D A (wM G a q ++ R) → va_S A s.heap H locs → lv_has ls 8 [(0, .ref (a 0)), (1, .int x1), (2, .int x2), (3, .int x3), (4, .int x4), (5, .int x5)] → W p l e rmX10_bestGap s m args below meth c H locs 0 0 Qf (F0 m 40 ls [])) : ∀ (q : qS) (x1 : Int32) (x2 : Int32) (x4 : Int32) (x5 : Int32) (x7 : Int32) (z0 : Int32) (H : Heap) (locs : List Loc) (ls : Array Slot), wX10_bestGap_b99 k kb40 q x1 x2 x4 x5 x7 z0 → va_P G.1 vwCl (wM G a q ++ R) H → va_D A (wM G a q ++ R) → va_S A s.heap H locs → lv_has ls 8 [(0, .ref (a 0)), (1, .int x1), (2, .int x2), (4, .int x4), (5, .int x5), (7, .int x7)] → W p l e rmX10_bestGap s m args below meth c H locs 0 0 Qf (F0 m 99 ls [.int z0]) := by
  intro q x1 x2 x4 x5 x7 z0 H locs ls h hP hD hS hl
  unfold wX10_bestGap_b99 at h
  refine lv_istore_n (lv' := [(3, .int z0), (0, .ref (a 0)), (1, .int x1), (2, .int x2), (4, .int x4), (5, .int x5), (7, .int x7)]) hx hb dX10_bestGap_99 rfl hl (by decide) rfl (fun ls hl => ?_)
  refine lv_iload hx hb dX10_bestGap_100 (lv_at hl 6 rfl) ?_
  refine lv_iload hx hb dX10_bestGap_102 (lv_at hl 4 rfl) ?_
  refine lv_icmp_le (tgt := 112) hx hb dX10_bestGap_104 (by decide) (fun c1 => ?_) (fun c1 => ?_)
  · have h := h.1 c1
    refine lv_iload hx hb dX10_bestGap_112 (lv_at hl 4 rfl) ?_
    exact kX10_bestGap_b114 hx hb hml hown hts hA hKn hret hkb40 q x1 x2 z0 x5 x4 _ _ _ h hP hD hS (lv_sub hl [1, 2, 3, 0, 5] rfl)
  · have h := h.2 c1
    refine lv_iload hx hb dX10_bestGap_107 (lv_at hl 6 rfl) ?_
    refine lv_goto (tgt := 114) hx hb dX10_bestGap_109 (by decide) ?_
    exact kX10_bestGap_b114 hx hb hml hown hts hA hKn hret hkb40 q x1 x2 z0 x5 x7 _ _ _ h hP hD hS (lv_sub hl [1, 2, 3, 0, 5] rfl)
set_option maxHeartbeats 4000000 in
set_option maxRecDepth 100000 in
theorem kX10_bestGap_b132 {p : Program} {l : Launch} {e : Env} {s : State} {m : MethodId} {args : Array Value} {below : List Frame} {meth : Method} {c : Code} {G : qG} {A : Nat → Prop} {Qf : State → Prop} {R : va_W} {a : Nat → Nat} {k : Int32 → qS → Prop} (hx : p.tables.exec = Jvm.exec) (hb : c.code = cX10_bestGap) (hml : c.maxLocals = 8) (hown : s.vm.findClass RX10 = some m.cls) (hts : ∀ w ∈ wsX10_bestGap, w.before args s = true) (hA : ∀ q : Nat, s.heap.size ≤ q → A q) (hKn : qKn G A s s.heap) (hret : ∀ (r : Int32) (q : qS) (H : Heap) (locs : List Loc) (ls : Array Slot) (pc : Nat), k r q → va_P G.1 vwCl (wM G a q ++ R) H → va_D A (wM G a q ++ R) → va_S A s.heap H locs → decode cX10_bestGap pc = .ok (.ireturn, 1) → W p l e rmX10_bestGap s m args below meth c H locs 0 0 Qf (F0 m pc ls [.int r])) : ∀ (q : qS) (z0 : Int32) (H : Heap) (locs : List Loc) (ls : Array Slot), wX10_bestGap_b132 k q z0 → va_P G.1 vwCl (wM G a q ++ R) H → va_D A (wM G a q ++ R) → va_S A s.heap H locs → lv_has ls 8 [] → W p l e rmX10_bestGap s m args below meth c H locs 0 0 Qf (F0 m 132 ls [.int z0]) := by
  intro q z0 H locs ls h hP hD hS hl
  unfold wX10_bestGap_b132 at h
  exact hret _ _ _ _ _ _ h hP hD hS dX10_bestGap_132
set_option maxHeartbeats 4000000 in
set_option maxRecDepth 100000 in
theorem kX10_bestGap_b40 {p : Program} {l : Launch} {e : Env} {s : State} {m : MethodId} {args : Array Value} {below : List Frame} {meth : Method} {c : Code} {G : qG} {A : Nat → Prop} {Qf : State → Prop} {R : va_W} {a : Nat → Nat} {k : Int32 → qS → Prop} (hx : p.tables.exec = Jvm.exec) (hb : c.code = cX10_bestGap) (hml : c.maxLocals = 8) (hown : s.vm.findClass RX10 = some m.cls) (hts : ∀ w ∈ wsX10_bestGap, w.before args s = true) (hA : ∀ q : Nat, s.heap.size ≤ q → A q) (hKn : qKn G A s s.heap) (hret : ∀ (r : Int32) (q : qS) (H : Heap) (locs : List Loc) (ls : Array Slot) (pc : Nat), k r q → va_P G.1 vwCl (wM G a q ++ R) H → va_D A (wM G a q ++ R) → va_S A s.heap H locs → decode cX10_bestGap pc = .ok (.ireturn, 1) → W p l e rmX10_bestGap s m args below meth c H locs 0 0 Qf (F0 m pc ls [.int r])) : ∀ (n : Nat) (q : qS) (x1 : Int32) (x2 : Int32) (x3 : Int32) (x4 : Int32) (x5 : Int32) (H : Heap) (locs : List Loc) (ls : Array Slot), wX10_bestGap_b40 k n q x1 x2 x3 x4 x5 → va_P G.1 vwCl (wM G a q ++ R) H → va_D A (wM G a q ++ R) → va_S A s.heap H locs → lv_has ls 8 [(0, .ref (a 0)), (1, .int x1), (2, .int x2), (3, .int x3), (4, .int x4), (5, .int x5)] → W p l e rmX10_bestGap s m args below meth c H locs 0 0 Qf (F0 m 40 ls []) := by
  intro n
  induction n with
  | zero => intros; rename_i h _ _ _ _; exact h.elim
  | succ n ih =>
    intro q x1 x2 x3 x4 x5 H locs ls h hP hD hS hl
    unfold wX10_bestGap_b40 at h
    refine lv_iload hx hb dX10_bestGap_40 (lv_at hl 5 rfl) ?_
    refine lv_bipush (v := (10 : Int32)) hx hb dX10_bestGap_42 (by decide) ?_
    refine lv_icmp_ge (tgt := 122) hx hb dX10_bestGap_44 (by decide) (fun c1 => ?_) (fun c1 => ?_)
    · have h := h.1 c1
      refine lv_iload_n hx hb dX10_bestGap_122 rfl (lv_at hl 2 rfl) ?_
      refine lv_if_ne (tgt := 130) hx hb dX10_bestGap_123 (by decide) (fun c1 => ?_) (fun c1 => ?_)
      · have h := h.1 c1
        refine lv_iload hx hb dX10_bestGap_130 (lv_at hl 4 rfl) ?_
        exact kX10_bestGap_b132 hx hb hml hown hts hA hKn hret q x4 _ _ _ h hP hD hS (lv_sub hl [] rfl)
      · have h := h.2 c1
        refine lv_iload_n hx hb dX10_bestGap_126 rfl (lv_at hl 3 rfl) ?_
        refine lv_goto (tgt := 132) hx hb dX10_bestGap_127 (by decide) ?_
        exact kX10_bestGap_b132 hx hb hml hown hts hA hKn hret q x3 _ _ _ h hP hD hS (lv_sub hl [] rfl)
    · have h := h.2 c1
      refine lv_aload_n hx hb dX10_bestGap_47 rfl (lv_at hl 0 rfl) ?_
      refine va_get (D := G.1) (ci := 10) (v := .ref (a 1)) (C := RX10) (T := TX10) (N := 15) hx hb hts iX10_bestGap_X10 hown hKn.k hP 0 rfl rfl 1 (by decide) (hts _ lX10_bestGap_f7) (fun _ h9 => h9) rfl dX10_bestGap_48 ?_
      refine lv_bipush (v := (12 : Int32)) hx hb dX10_bestGap_51 (by decide) ?_
      refine va_iald hx hb hKn.k hP 1 0 rfl rfl (by unfold vp_in; decide) dX10_bestGap_53 ?_
      refine lv_topi (fun y2 ey2 => ?_)
      have h := h y2 ey2
      refine lv_istore (lv' := [(6, .int y2), (0, .ref (a 0)), (1, .int x1), (2, .int x2), (3, .int x3), (4, .int x4), (5, .int x5)]) hx hb dX10_bestGap_54 hl (by decide) rfl (fun ls hl => ?_)
      refine lv_aload_n hx hb dX10_bestGap_56 rfl (lv_at hl 1 rfl) ?_
      refine va_get (D := G.1) (ci := 10) (v := .ref (a 1)) (C := RX10) (T := TX10) (N := 15) hx hb hts iX10_bestGap_X10 hown hKn.k hP 0 rfl rfl 1 (by decide) (hts _ lX10_bestGap_f7) (fun _ h9 => h9) rfl dX10_bestGap_57 ?_
      refine lv_iconst (v := (3 : Int32)) hx hb dX10_bestGap_60 (by decide) ?_
      refine lv_iload hx hb dX10_bestGap_61 (lv_at hl 6 rfl) ?_
      refine va_iast hx hb hKn.k hP hD hS 1 0 rfl rfl (by unfold vp_in; decide) dX10_bestGap_63 (fun H locs hP hD hS => ?_)
      obtain ⟨q3, eq3⟩ : ∃ z : qS, z = up2 q 1 3 x5 := ⟨_, rfl⟩
      have hP : va_P G.1 vwCl (wM G a q3 ++ R) H := by rw [eq3]; exact hP
      have hD : va_D A (wM G a q3 ++ R) := by rw [eq3]; exact hD
      have h := h q3 eq3
      refine lv_aload_n hx hb dX10_bestGap_64 rfl (lv_at hl 1 rfl) ?_
      refine lv_iload_n hx hb dX10_bestGap_65 rfl (lv_at hl 2 rfl) ?_
      refine qc_vi (As := [.int x1]) (rest := []) ⟨hx, hb, hml, hown, hts⟩ (mX10_days l G _ _ a q3 _ x1) (cwV 1 hts gX10_bestGap_X10_days rfl rfl rfl (by decide +kernel) ⟨Nat.le_of_ble_eq_true rfl, Nat.le_of_ble_eq_true rfl⟩) hP hD hS hA hKn 0 10 rfl rfl rfl h rfl hl.1 rfl (Nat.le_of_ble_eq_true rfl) dX10_bestGap_66 ⟨Nat.zero_le _, Nat.zero_le _⟩ (fun r4 q5 H locs h hP hD hS => ?_)
      have hP : va_P G.1 vwCl (wM G a q5 ++ R) H := hP
      have hD : va_D A (wM G a q5 ++ R) := hD
      refine lv_pop hx hb dX10_bestGap_69 rfl ?_
      refine lv_aload_n hx hb dX10_bestGap_70 rfl (lv_at hl 1 rfl) ?_
      refine va_get (D := G.1) (ci := 10) (v := .ref (a 1)) (C := RX10) (T := TX10) (N := 15) hx hb hts iX10_bestGap_X10 hown hKn.k hP 0 rfl rfl 1 (by decide) (hts _ lX10_bestGap_f7) (fun _ h9 => h9) rfl dX10_bestGap_71 ?_
      refine lv_bipush (v := (12 : Int32)) hx hb dX10_bestGap_74 (by decide) ?_
      refine va_iald hx hb hKn.k hP 1 0 rfl rfl (by unfold vp_in; decide) dX10_bestGap_76 ?_
      refine lv_iload hx hb dX10_bestGap_77 (lv_at hl 0 rfl) ?_
      refine lv_isub hx hb dX10_bestGap_79 ?_
      refine lv_topi (fun y6 ey6 => ?_)
      have h := h y6 ey6
      refine lv_istore (lv' := [(7, .int y6), (6, .int y2), (0, .ref (a 0)), (1, .int x1), (2, .int x2), (3, .int x3), (4, .int x4), (5, .int x5)]) hx hb dX10_bestGap_80 hl (by decide) rfl (fun ls hl => ?_)
      refine lv_aload_n hx hb dX10_bestGap_82 rfl (lv_at hl 2 rfl) ?_
      refine qc_vv (As := []) (rest := []) ⟨hx, hb, hml, hown, hts⟩ (mX10_takeBack l G _ _ a q5 _ ) (cwV 0 hts gX10_bestGap_X10_takeBack rfl rfl rfl (by decide +kernel) ⟨Nat.le_of_ble_eq_true rfl, Nat.le_of_ble_eq_true rfl⟩) hP hD hS hA hKn 0 10 rfl rfl rfl h rfl hl.1 rfl (Nat.le_of_ble_eq_true rfl) dX10_bestGap_83 ⟨Nat.zero_le _, Nat.zero_le _⟩ (fun q8 H locs h hP hD hS => ?_)
      have hP : va_P G.1 vwCl (wM G a q8 ++ R) H := hP
      have hD : va_D A (wM G a q8 ++ R) := hD
      refine lv_iload hx hb dX10_bestGap_86 (lv_at hl 0 rfl) ?_
      refine lv_iload hx hb dX10_bestGap_88 (lv_at hl 6 rfl) ?_
      refine lv_icmp_le (tgt := 98) hx hb dX10_bestGap_90 (by decide) (fun c1 => ?_) (fun c1 => ?_)
      · have h := h.1 c1
        refine lv_iload_n hx hb dX10_bestGap_98 rfl (lv_at hl 5 rfl) ?_
        exact kX10_bestGap_b99 hx hb hml hown hts hA hKn hret ih q8 x1 x2 x4 x5 y6 x3 _ _ _ h hP hD hS (lv_sub hl [2, 3, 4, 6, 7, 0] rfl)
      · have h := h.2 c1
        refine lv_iload hx hb dX10_bestGap_93 (lv_at hl 7 rfl) ?_
        refine lv_goto (tgt := 99) hx hb dX10_bestGap_95 (by decide) ?_
        exact kX10_bestGap_b99 hx hb hml hown hts hA hKn hret ih q8 x1 x2 x4 x5 y6 x5 _ _ _ h hP hD hS (lv_sub hl [2, 3, 4, 6, 7, 0] rfl)
set_option maxHeartbeats 4000000 in
set_option maxRecDepth 100000 in
theorem mX10_bestGap (l : Launch) (G : qG) (k : Int32 → qS → Prop) (R : va_W) (a : Nat → Nat) (q : qS) (sz : Nat) (p0 : Int32) (p1 : Int32) : Met l yX10_bestGap wsX10_bestGap rmX10_bestGap (qPc G [.ref (a 0), .int p0, .int p1] (wM G a q ++ R) sz (wX10_bestGap k q p0 p1)) (qQi G (wM G a q ++ R) sz (fun (r : Int32) (u : qS) => k r u) (fun (u : qS) => wM G a u ++ R)) 0 0 (va_A (wM G a q ++ R) sz) := by
  refine Met.ofW (cc := cX10_bestGap) (maxL := 8) (ret := (some .int)) (by decide) rfl ?_
  intro p e s m args below meth c s₁ B hml hv
  obtain ⟨rfl, hsz, hP, hD0, hKn0, h⟩ := hv
  have hx := B.exec
  have hb := B.bytes
  have hr := B.returns
  have hts := atoms_spec (ws := wsX10_bestGap) B.pre
  have hown : s.vm.findClass RX10 = some m.cls := findClass_of_methodNamed B.named
  have hlocks := B.notSynchronized
  subst hsz
  have hD := hD0.self (sz := s.heap.size)
  generalize hAe : va_A (wM G a q ++ R) s.heap.size = A at hD hKn0 ⊢
  have hA : ∀ q : Nat, s.heap.size ≤ q → A q := fun q h => by rw [← hAe]; exact Or.inr h
  have hKn : qKn G A s s.heap := hKn0
  have hS : va_S A s.heap s.heap [] := va_S.rf
  have hret : ∀ (r : Int32) (q' : qS) (H : Heap) (locs : List Loc) (ls : Array Slot) (pc : Nat), k r q' → va_P G.1 vwCl (wM G a q' ++ R) H → va_D A (wM G a q' ++ R) → va_S A s.heap H locs → decode cX10_bestGap pc = .ok (.ireturn, 1) → W p l e rmX10_bestGap s m #[.ref (a 0), .int p0, .int p1] below meth c H locs 0 0 (MQ below (qQi G (wM G a q ++ R) s.heap.size (fun (r : Int32) (u : qS) => k r u) (fun (u : qS) => wM G a u ++ R)) #[.ref (a 0), .int p0, .int p1] s 0 0 A) (F0 m pc ls [.int r]) := fun r q' H locs ls pc hk hP hD hS hd => W.iret hx hb hr (fun t ht hW => q_ri (u := (q' : qS)) hAe hk hP hD hS ht) hS.2.2 hd
  have hl := lv_entry ([.ref (a 0), .int p0, .int p1]) (n := 8) (Nat.le_of_ble_eq_true rfl)
  rw [lg_entry_eq]
  generalize (lg_sl ([.ref (a 0), .int p0, .int p1]) ++ List.replicate (8 - (lg_sl ([.ref (a 0), .int p0, .int p1])).length) Slot.unset).toArray = ls at hl ⊢
  have hl : lv_has ls 8 [(0, .ref (a 0)), (1, .int p0), (2, .int p1)] := hl
  unfold wX10_bestGap at h
  show W p l e rmX10_bestGap s m #[.ref (a 0), .int p0, .int p1] below meth c s.heap [] 0 0 _ _
  refine lv_aload_n hx hb dX10_bestGap_0 rfl (lv_at hl 0 rfl) ?_
  refine lv_iconst (v := (0 : Int32)) hx hb dX10_bestGap_1 (by decide) ?_
  refine va_put (D := G.1) (ci := 10) (v := .int (0 : Int32)) (ty := .int) (C := RX10) (T := TX10) (N := 15) hx hb hts iX10_bestGap_X10 tyX10 tyX10_ok nmX10 hown hKn.k hP hD hS 0 rfl rfl 0 (by decide) (hts _ lX10_bestGap_f32) (fun _ h9 => h9) rfl (by decide +kernel) rfl rfl (Nat.le_of_ble_eq_true rfl) dX10_bestGap_2 (fun H locs hP hD hS => ?_)
  obtain ⟨q9, eq9⟩ : ∃ z : qS, z = up2 q 0 0 (0 : Int32) := ⟨_, rfl⟩
  have hP : va_P G.1 vwCl (wM G a q9 ++ R) H := by rw [eq9]; exact hP
  have hD : va_D A (wM G a q9 ++ R) := by rw [eq9]; exact hD
  have h := h q9 eq9
  refine lv_iload_n hx hb dX10_bestGap_5 rfl (lv_at hl 1 rfl) ?_
  refine lv_iconst (v := (1 : Int32)) hx hb dX10_bestGap_6 (by decide) ?_
  refine lv_bipush (v := (30 : Int32)) hx hb dX10_bestGap_7 (by decide) ?_
  refine qc_si (As := [.int p0, .int (1 : Int32), .int (30 : Int32)]) (rest := []) ⟨hx, hb, hml, hown, hts⟩ (mX10_in l G _ _ _ p0 (1 : Int32) (30 : Int32)) (cwS 3 hts gX10_bestGap_X10_in rfl rfl rfl (by decide +kernel) ⟨Nat.le_of_ble_eq_true rfl, Nat.le_of_ble_eq_true rfl⟩) hP hD hS hA hKn h rfl hl.1 rfl (Nat.le_of_ble_eq_true rfl) dX10_bestGap_9 ⟨Nat.zero_le _, Nat.zero_le _⟩ (fun r10 _ H locs h hP hD hS => ?_)
  have hP : va_P G.1 vwCl (wM G a q9 ++ R) H := hP
  have hD : va_D A (wM G a q9 ++ R) := hD
  refine lv_if_eq (tgt := 24) hx hb dX10_bestGap_12 (by decide) (fun c1 => ?_) (fun c1 => ?_)
  · have h := h.1 c1
    exact kX10_bestGap_b24 hx hb hml hown hts hA hKn hret q9 _ _ _ h hP hD hS (lv_sub hl [] rfl)
  · have h := h.2 c1
    refine lv_iload_n hx hb dX10_bestGap_15 rfl (lv_at hl 2 rfl) ?_
    refine lv_iconst (v := (0 : Int32)) hx hb dX10_bestGap_16 (by decide) ?_
    refine lv_iconst (v := (1 : Int32)) hx hb dX10_bestGap_17 (by decide) ?_
    refine qc_si (As := [.int p1, .int (0 : Int32), .int (1 : Int32)]) (rest := []) ⟨hx, hb, hml, hown, hts⟩ (mX10_in l G _ _ _ p1 (0 : Int32) (1 : Int32)) (cwS 3 hts gX10_bestGap_X10_in rfl rfl rfl (by decide +kernel) ⟨Nat.le_of_ble_eq_true rfl, Nat.le_of_ble_eq_true rfl⟩) hP hD hS hA hKn h rfl hl.1 rfl (Nat.le_of_ble_eq_true rfl) dX10_bestGap_18 ⟨Nat.zero_le _, Nat.zero_le _⟩ (fun r11 _ H locs h hP hD hS => ?_)
    have hP : va_P G.1 vwCl (wM G a q9 ++ R) H := hP
    have hD : va_D A (wM G a q9 ++ R) := hD
    refine lv_if_ne (tgt := 27) hx hb dX10_bestGap_21 (by decide) (fun c1 => ?_) (fun c1 => ?_)
    · have h := h.1 c1
      refine lv_aload_n hx hb dX10_bestGap_27 rfl (lv_at hl 0 rfl) ?_
      refine qc_vv (As := []) (rest := []) ⟨hx, hb, hml, hown, hts⟩ (mX10_putAside l G _ _ a q9 _ ) (cwV 0 hts gX10_bestGap_X10_putAside rfl rfl rfl (by decide +kernel) ⟨Nat.le_of_ble_eq_true rfl, Nat.le_of_ble_eq_true rfl⟩) hP hD hS hA hKn 0 10 rfl rfl rfl h rfl hl.1 rfl (Nat.le_of_ble_eq_true rfl) dX10_bestGap_28 ⟨Nat.zero_le _, Nat.zero_le _⟩ (fun q13 H locs h hP hD hS => ?_)
      have hP : va_P G.1 vwCl (wM G a q13 ++ R) H := hP
      have hD : va_D A (wM G a q13 ++ R) := hD
      refine lv_iconst (v := (0 : Int32)) hx hb dX10_bestGap_31 (by decide) ?_
      refine lv_istore_n (lv' := [(3, .int (0 : Int32)), (0, .ref (a 0)), (1, .int p0), (2, .int p1)]) hx hb dX10_bestGap_32 rfl hl (by decide) rfl (fun ls hl => ?_)
      refine lv_bipush (v := (-6 : Int32)) hx hb dX10_bestGap_33 (by decide) ?_
      refine lv_istore (lv' := [(4, .int (-6 : Int32)), (3, .int (0 : Int32)), (0, .ref (a 0)), (1, .int p0), (2, .int p1)]) hx hb dX10_bestGap_35 hl (by decide) rfl (fun ls hl => ?_)
      refine lv_iconst (v := (1 : Int32)) hx hb dX10_bestGap_37 (by decide) ?_
      refine lv_istore (lv' := [(5, .int (1 : Int32)), (4, .int (-6 : Int32)), (3, .int (0 : Int32)), (0, .ref (a 0)), (1, .int p0), (2, .int p1)]) hx hb dX10_bestGap_38 hl (by decide) rfl (fun ls hl => ?_)
      obtain ⟨n14, h⟩ := h
      exact kX10_bestGap_b40 hx hb hml hown hts hA hKn hret n14 q13 p0 p1 (0 : Int32) (-6 : Int32) (1 : Int32) _ _ _ h hP hD hS (lv_sub hl [3, 4, 5, 2, 1, 0] rfl)
    · have h := h.2 c1
      exact kX10_bestGap_b24 hx hb hml hown hts hA hKn hret q9 _ _ _ h hP hD hS (lv_sub hl [] rfl)
