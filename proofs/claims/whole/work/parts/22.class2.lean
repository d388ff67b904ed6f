abbrev rmX5_readSign : Room := { frames := 1, cells := 0, slots := 0, locals := 20 }
theorem lX5_readSign_f36 : Cond.fieldLink RX5 36 "QuarryBlends$Pad" "place" "I" ∈ wsX5_readSign := by decide +kernel
theorem iX5_readSign_X5 : ∀ w ∈ wsX50, w ∈ wsX5_readSign := by decide +kernel
set_option maxHeartbeats 4000000 in
set_option maxRecDepth 100000 in
theorem mX5_readSign (l : Launch) (G : qG) (k : Int32 → qS → Prop) (R : va_W) (g : Nat → Nat) (d : qS) (sz : Nat) (p0 : Int32) : Met l yX5_readSign wsX5_readSign rmX5_readSign (qPc G [.ref (g 0), .int p0] (wD G g d ++ R) sz (wX5_readSign k d p0)) (qQi G (wD G g d ++ R) sz (fun (r : Int32) (u : qS) => k r u) (fun (u : qS) => wD G g u ++ R)) 0 0 (va_A (wD G g d ++ R) sz) := by
  refine Met.ofW (cc := cX5_readSign) (maxL := 2) (ret := (some .boolean)) (by decide) rfl ?_
  intro p e s m args below meth c s₁ B hml hv
  obtain ⟨rfl, hsz, hP, hD0, hKn0, h⟩ := hv
  have hx := B.exec
  have hb := B.bytes
  have hr := B.returns
  have hts := atoms_spec (ws := wsX5_readSign) B.pre
  have hown : s.vm.findClass RX5 = some m.cls := findClass_of_methodNamed B.named
  have hlocks := B.notSynchronized
  subst hsz
  have hD := hD0.self (sz := s.heap.size)
  generalize hAe : va_A (wD G g d ++ R) s.heap.size = A at hD hKn0 ⊢
  have hA : ∀ q : Nat, s.heap.size ≤ q → A q := fun q h => by rw [← hAe]; exact Or.inr h
  have hKn : qKn G A s s.heap := hKn0
  have hS : va_S A s.heap s.heap [] := va_S.rf
  have hret : ∀ (r : Int32) (d' : qS) (H : Heap) (locs : List Loc) (ls : Array Slot) (pc : Nat), k r d' → narrow .boolean (.int r) = .int r → va_P G.1 vwCl (wD G g d' ++ R) H → va_D A (wD G g d' ++ R) → va_S A s.heap H locs → decode cX5_readSign pc = .ok (.ireturn, 1) → W p l e rmX5_readSign s m #[.ref (g 0), .int p0] below meth c H locs 0 0 (MQ below (qQi G (wD G g d ++ R) s.heap.size (fun (r : Int32) (u : qS) => k r u) (fun (u : qS) => wD G g u ++ R)) #[.ref (g 0), .int p0] s 0 0 A) (F0 m pc ls [.int r]) := fun r d' H locs ls pc hk hn hP hD hS hd => W.zret hx hb hr hn (fun t ht hW => q_ri (u := (d' : qS)) hAe hk hP hD hS ht) hS.2.2 hd
  have hl := lv_entry ([.ref (g 0), .int p0]) (n := 2) (Nat.le_of_ble_eq_true rfl)
  rw [lg_entry_eq]
  generalize (lg_sl ([.ref (g 0), .int p0]) ++ List.replicate (2 - (lg_sl ([.ref (g 0), .int p0])).length) Slot.unset).toArray = ls at hl ⊢
  have hl : lv_has ls 2 [(0, .ref (g 0)), (1, .int p0)] := hl
  unfold wX5_readSign at h
  show W p l e rmX5_readSign s m #[.ref (g 0), .int p0] below meth c s.heap [] 0 0 _ _
  refine lv_aload_n hx hb dX5_readSign_0 rfl (lv_at hl 0 rfl) ?_
  refine qc_vi (As := []) (rest := []) ⟨hx, hb, hml, hown, hts⟩ (mX5_sign l G _ _ g d _ ) (cwV 0 hts gX5_readSign_X5_sign rfl rfl rfl (by decide +kernel) ⟨Nat.le_of_ble_eq_true rfl, Nat.le_of_ble_eq_true rfl⟩) hP hD hS hA hKn 0 5 rfl rfl rfl h rfl hl.1 rfl (Nat.le_of_ble_eq_true rfl) dX5_readSign_1 ⟨Nat.zero_le _, Nat.zero_le _⟩ (fun r1 d2 H locs h hP hD hS => ?_)
  have hP : va_P G.1 vwCl (wD G g d2 ++ R) H := hP
  have hD : va_D A (wD G g d2 ++ R) := hD
  refine lv_iload_n hx hb dX5_readSign_4 rfl (lv_at hl 1 rfl) ?_
  refine lv_icmp_eq (tgt := 10) hx hb dX5_readSign_5 (by decide) (fun c1 => ?_) (fun c1 => ?_)
  · have h := h.1 c1
    refine lv_aload_n hx hb dX5_readSign_10 rfl (lv_at hl 0 rfl) ?_
    refine lv_dup hx hb dX5_readSign_11 rfl ?_
    refine va_get (D := G.1) (ci := 5) (v := .int (d2 0 1)) (C := RX5) (T := TX5) (N := 6) hx hb hts iX5_readSign_X5 hown hKn.k hP 0 rfl rfl 2 (by decide) (hts _ lX5_readSign_f36) (fun _ h9 => h9) rfl dX5_readSign_12 ?_
    refine lv_iconst (v := (1 : Int32)) hx hb dX5_readSign_15 (by decide) ?_
    refine lv_iadd hx hb dX5_readSign_16 ?_
    refine lv_topi (fun y3 ey3 => ?_)
    have h := h y3 ey3
    refine va_put (D := G.1) (ci := 5) (v := .int y3) (ty := .int) (C := RX5) (T := TX5) (N := 6) hx hb hts iX5_readSign_X5 tyX5 tyX5_ok nmX5 hown hKn.k hP hD hS 0 rfl rfl 2 (by decide) (hts _ lX5_readSign_f36) (fun _ h9 => h9) rfl (by decide +kernel) rfl rfl (Nat.le_of_ble_eq_true rfl) dX5_readSign_17 (fun H locs hP hD hS => ?_)
    obtain ⟨d4, ed4⟩ : ∃ z : qS, z = up2 d2 0 1 y3 := ⟨_, rfl⟩
    have hP : va_P G.1 vwCl (wD G g d4 ++ R) H := by rw [ed4]; exact hP
    have hD : va_D A (wD G g d4 ++ R) := by rw [ed4]; exact hD
    have h := h d4 ed4
    refine lv_iconst (v := (1 : Int32)) hx hb dX5_readSign_20 (by decide) ?_
    exact hret _ _ _ _ _ _ h rfl hP hD hS dX5_readSign_21
  · have h := h.2 c1
    refine lv_iconst (v := (0 : Int32)) hx hb dX5_readSign_8 (by decide) ?_
    exact hret _ _ _ _ _ _ h rfl hP hD hS dX5_readSign_9
abbrev rmX5_readPart : Room := { frames := 2, cells := 0, slots := 0, locals := 43 }
set_option maxHeartbeats 4000000 in
set_option maxRecDepth 100000 in
theorem mX5_readPart (l : Launch) (G : qG) (k : Int32 → qS → Prop) (R : va_W) (g : Nat → Nat) (d : qS) (sz : Nat) (p0 : Int32) : Met l yX5_readPart wsX5_readPart rmX5_readPart (qPc G [.ref (g 0), .int p0] (wD G g d ++ R) sz (wX5_readPart k d p0)) (qQi G (wD G g d ++ R) sz (fun (r : Int32) (u : qS) => k r u) (fun (u : qS) => wD G g u ++ R)) 0 0 (va_A (wD G g d ++ R) sz) := by
  refine Met.ofW (cc := cX5_readPart) (maxL := 2) (ret := (some .boolean)) (by decide) rfl ?_
  intro p e s m args below meth c s₁ B hml hv
  obtain ⟨rfl, hsz, hP, hD0, hKn0, h⟩ := hv
  have hx := B.exec
  have hb := B.bytes
  have hr := B.returns
  have hts := atoms_spec (ws := wsX5_readPart) B.pre
  have hown : s.vm.findClass RX5 = some m.cls := findClass_of_methodNamed B.named
  have hlocks := B.notSynchronized
  subst hsz
  have hD := hD0.self (sz := s.heap.size)
  generalize hAe : va_A (wD G g d ++ R) s.heap.size = A at hD hKn0 ⊢
  have hA : ∀ q : Nat, s.heap.size ≤ q → A q := fun q h => by rw [← hAe]; exact Or.inr h
  have hKn : qKn G A s s.heap := hKn0
  have hS : va_S A s.heap s.heap [] := va_S.rf
  have hret : ∀ (r : Int32) (d' : qS) (H : Heap) (locs : List Loc) (ls : Array Slot) (pc : Nat), k r d' → narrow .boolean (.int r) = .int r → va_P G.1 vwCl (wD G g d' ++ R) H → va_D A (wD G g d' ++ R) → va_S A s.heap H locs → decode cX5_readPart pc = .ok (.ireturn, 1) → W p l e rmX5_readPart s m #[.ref (g 0), .int p0] below meth c H locs 0 0 (MQ below (qQi G (wD G g d ++ R) s.heap.size (fun (r : Int32) (u : qS) => k r u) (fun (u : qS) => wD G g u ++ R)) #[.ref (g 0), .int p0] s 0 0 A) (F0 m pc ls [.int r]) := fun r d' H locs ls pc hk hn hP hD hS hd => W.zret hx hb hr hn (fun t ht hW => q_ri (u := (d' : qS)) hAe hk hP hD hS ht) hS.2.2 hd
  have hl := lv_entry ([.ref (g 0), .int p0]) (n := 2) (Nat.le_of_ble_eq_true rfl)
  rw [lg_entry_eq]
  generalize (lg_sl ([.ref (g 0), .int p0]) ++ List.replicate (2 - (lg_sl ([.ref (g 0), .int p0])).length) Slot.unset).toArray = ls at hl ⊢
  have hl : lv_has ls 2 [(0, .ref (g 0)), (1, .int p0)] := hl
  unfold wX5_readPart at h
  show W p l e rmX5_readPart s m #[.ref (g 0), .int p0] below meth c s.heap [] 0 0 _ _
  refine lv_iload_n hx hb dX5_readPart_0 rfl (lv_at hl 1 rfl) ?_
  refine lv_bipush (v := (110 : Int32)) hx hb dX5_readPart_1 (by decide) ?_
  refine lv_icmp_ne (tgt := 11) hx hb dX5_readPart_3 (by decide) (fun c1 => ?_) (fun c1 => ?_)
  · have h := h.1 c1
    refine lv_iload_n hx hb dX5_readPart_11 rfl (lv_at hl 1 rfl) ?_
    refine lv_bipush (v := (49 : Int32)) hx hb dX5_readPart_12 (by decide) ?_
    refine lv_icmp_ne (tgt := 22) hx hb dX5_readPart_14 (by decide) (fun c1 => ?_) (fun c1 => ?_)
    · have h := h.1 c1
      refine lv_aload_n hx hb dX5_readPart_22 rfl (lv_at hl 0 rfl) ?_
      refine lv_iload_n hx hb dX5_readPart_23 rfl (lv_at hl 1 rfl) ?_
      refine qc_vi (As := [.int p0]) (rest := []) ⟨hx, hb, hml, hown, hts⟩ (mX5_readSign l G _ _ g d _ p0) (cwV 1 hts gX5_readPart_X5_readSign rfl rfl rfl (by decide +kernel) ⟨Nat.le_of_ble_eq_true rfl, Nat.le_of_ble_eq_true rfl⟩) hP hD hS hA hKn 0 5 rfl rfl rfl h rfl hl.1 rfl (Nat.le_of_ble_eq_true rfl) dX5_readPart_24 ⟨Nat.zero_le _, Nat.zero_le _⟩ (fun r1 d2 H locs h hP hD hS => ?_)
      have hP : va_P G.1 vwCl (wD G g d2 ++ R) H := hP
      have hD : va_D A (wD G g d2 ++ R) := hD
      obtain ⟨hn1, h⟩ := h
      exact hret _ _ _ _ _ _ h hn1 hP hD hS dX5_readPart_27
    · have h := h.2 c1
      refine lv_aload_n hx hb dX5_readPart_17 rfl (lv_at hl 0 rfl) ?_
      refine qc_vi (As := []) (rest := []) ⟨hx, hb, hml, hown, hts⟩ (mX5_readDigit l G _ _ g d _ ) (cwV 0 hts gX5_readPart_X5_readDigit rfl rfl rfl (by decide +kernel) ⟨Nat.le_of_ble_eq_true rfl, Nat.le_of_ble_eq_true rfl⟩) hP hD hS hA hKn 0 5 rfl rfl rfl h rfl hl.1 rfl (Nat.le_of_ble_eq_true rfl) dX5_readPart_18 ⟨Nat.zero_le _, Nat.zero_le _⟩ (fun r3 d4 H locs h hP hD hS => ?_)
      have hP : va_P G.1 vwCl (wD G g d4 ++ R) H := hP
      have hD : va_D A (wD G g d4 ++ R) := hD
      obtain ⟨hn1, h⟩ := h
      exact hret _ _ _ _ _ _ h hn1 hP hD hS dX5_readPart_21
  · have h := h.2 c1
    refine lv_aload_n hx hb dX5_readPart_6 rfl (lv_at hl 0 rfl) ?_
    refine qc_vi (As := []) (rest := []) ⟨hx, hb, hml, hown, hts⟩ (mX5_readNumber l G _ _ g d _ ) (cwV 0 hts gX5_readPart_X5_readNumber rfl rfl rfl (by decide +kernel) ⟨Nat.le_of_ble_eq_true rfl, Nat.le_of_ble_eq_true rfl⟩) hP hD hS hA hKn 0 5 rfl rfl rfl h rfl hl.1 rfl (Nat.le_of_ble_eq_true rfl) dX5_readPart_7 ⟨Nat.zero_le _, Nat.zero_le _⟩ (fun r5 d6 H locs h hP hD hS => ?_)
    have hP : va_P G.1 vwCl (wD G g d6 ++ R) H := hP
    have hD : va_D A (wD G g d6 ++ R) := hD
    obtain ⟨hn1, h⟩ := h
    exact hret _ _ _ _ _ _ h hn1 hP hD hS dX5_readPart_10
abbrev rmX8_leastSetting : Room := { frames := 0, cells := 0, slots := 0, locals := 0 }
theorem lX8_leastSetting_f9 : Cond.fieldLink RX8 9 "QuarryBlends$Trucks" "from" "[I" ∈ wsX8_leastSetting := by decide +kernel
theorem iX8_leastSetting_X8 : ∀ w ∈ wsX80, w ∈ wsX8_leastSetting := by decide +kernel
set_option maxHeartbeats 4000000 in
set_option maxRecDepth 100000 in
theorem kX8_leastSetting_b25 {p : Program} {l : Launch} {e : Env} {s : State} {m : MethodId} {args : Array Value} {below : List Frame} {meth : Method} {c : Code} {G : qG} {A : Nat → Prop} {Qf : State → Prop} {R : va_W} {a : Nat → Nat} {k : Int32 → qS → Prop} (hx : p.tables.exec = Jvm.exec) (hb : c.code = cX8_leastSetting) (hml : c.maxLocals = 3) (hown : s.vm.findClass RX8 = some m.cls) (hts : ∀ w ∈ wsX8_leastSetting, w.before args s = true) (hA : ∀ q : Nat, s.heap.size ≤ q → A q) (hKn : qKn G A s s.heap) (hret : ∀ (r : Int32) (q : qS) (H : Heap) (locs : List Loc) (ls : Array Slot) (pc : Nat), k r q → va_P G.1 vwCl (wQ G a q ++ R) H → va_D A (wQ G a q ++ R) → va_S A s.heap H locs → decode cX8_leastSetting pc = .ok (.ireturn, 1) → W p l e rmX8_leastSetting s m args below meth c H locs 0 0 Qf (F0 m pc ls [.int r])) {kb4 : qS → Int32 → Int32 → Prop} (hkb4 : ∀ (q : qS) (x1 : Int32) (x2 : Int32) (H : Heap) (locs : List Loc) (ls : Array Slot), kb4 q x1 x2 → va_P G.1 vwCl (wQ G a q ++ R) H → va_D A (wQ G a q ++ R) → va_S A s.heap H locs → lv_has ls 3 [(0, .ref (a 14)), (1, .int x1), (2, .int x2)] → W p l e rmX8_leastSetting s m args below meth c H locs 0 0 Qf (F0 m 4 ls [])) : ∀ (q : qS) (x1 : Int32) (x2 : Int32) (H : Heap) (locs : List Loc) (ls : Array Slot), wX8_leastSetting_b25 k kb4 q x1 x2 → va_P G.1 vwCl (wQ G a q ++ R) H → va_D A (wQ G a q ++ R) → va_S A s.heap H locs → lv_has ls 3 [(0, .ref (a 14)), (1, .int x1), (2, .int x2)] → W p l e rmX8_leastSetting s m args below meth c H locs 0 0 Qf (F0 m 25 ls []) := by
  intro q x1 x2 H locs ls h hP hD hS hl
  unfold wX8_leastSetting_b25 at h
  obtain ⟨y1, ey1⟩ : ∃ z : Int32, z = x2 + (1 : Int32) := ⟨_, rfl⟩
  have h := h y1 ey1
  refine lv_iinc (v := y1) (lv' := [(2, .int y1), (0, .ref (a 14)), (1, .int x1)]) hx hb dX8_leastSetting_25 hl (k := 2) rfl (by rw [ey1]; rfl) (by decide) rfl (fun ls hl => ?_)
  refine lv_goto (tgt := 4) hx hb dX8_leastSetting_28 (by decide) ?_
  exact hkb4 q x1 y1 _ _ _ h hP hD hS (lv_sub hl [1, 2, 0] rfl)
set_option maxHeartbeats 4000000 in
set_option maxRecDepth 100000 in
theorem kX8_leastSetting_b4 {p : Program} {l : Launch} {e : Env} {s : State} {m : MethodId} {args : Array Value} {below : List Frame} {meth : Method} {c : Code} {G : qG} {A : Nat → Prop} {Qf : State → Prop} {R : va_W} {a : Nat → Nat} {k : Int32 → qS → Prop} (hx : p.tables.exec = Jvm.exec) (hb : c.code = cX8_leastSetting) (hml : c.maxLocals = 3) (hown : s.vm.findClass RX8 = some m.cls) (hts : ∀ w ∈ wsX8_leastSetting, w.before args s = true) (hA : ∀ q : Nat, s.heap.size ≤ q → A q) (hKn : qKn G A s s.heap) (hret : ∀ (r : Int32) (q : qS) (H : Heap) (locs : List Loc) (ls : Array Slot) (pc : Nat), k r q → va_P G.1 vwCl (wQ G a q ++ R) H → va_D A (wQ G a q ++ R) → va_S A s.heap H locs → decode cX8_leastSetting pc = .ok (.ireturn, 1) → W p l e rmX8_leastSetting s m args below meth c H locs 0 0 Qf (F0 m pc ls [.int r])) : ∀ (n : Nat) (q : qS) (x1 : Int32) (x2 : Int32) (H : Heap) (locs : List Loc) (ls : Array Slot), wX8_leastSetting_b4 k n q x1 x2 → va_P G.1 vwCl (wQ G a q ++ R) H → va_D A (wQ G a q ++ R) → va_S A s.heap H locs → lv_has ls 3 [(0, .ref (a 14)), (1, .int x1), (2, .int x2)] → W p l e rmX8_leastSetting s m args below meth c H locs 0 0 Qf (F0 m 4 ls []) := by
  intro n
  induction n with
  | zero => intros; rename_i h _ _ _ _; exact h.elim
  | succ n ih =>
    intro q x1 x2 H locs ls h hP hD hS hl
    unfold wX8_leastSetting_b4 at h
    refine lv_iload_n hx hb dX8_leastSetting_4 rfl (lv_at hl 2 rfl) ?_
    refine lv_bipush (v := (20 : Int32)) hx hb dX8_leastSetting_5 (by decide) ?_
    refine lv_icmp_ge (tgt := 31) hx hb dX8_leastSetting_7 (by decide) (fun c1 => ?_) (fun c1 => ?_)
    · have h := h.1 c1
      refine lv_iload_n hx hb dX8_leastSetting_31 rfl (lv_at hl 1 rfl) ?_
      exact hret _ _ _ _ _ _ h hP hD hS dX8_leastSetting_32
    · have h := h.2 c1
      refine lv_aload_n hx hb dX8_leastSetting_10 rfl (lv_at hl 0 rfl) ?_
      refine va_get (D := G.1) (ci := 8) (v := .ref (a 6)) (C := RX8) (T := TX8) (N := 4) hx hb hts iX8_leastSetting_X8 hown hKn.k hP 7 rfl rfl 0 (by decide) (hts _ lX8_leastSetting_f9) (fun _ h9 => h9) rfl dX8_leastSetting_11 ?_
      refine lv_iload_n hx hb dX8_leastSetting_14 rfl (lv_at hl 2 rfl) ?_
      obtain ⟨hin, h⟩ := h
      refine va_iald hx hb hKn.k hP 8 0 rfl rfl hin dX8_leastSetting_15 ?_
      refine lv_bipush (v := (-6 : Int32)) hx hb dX8_leastSetting_16 (by decide) ?_
      refine lv_icmp_eq (tgt := 25) hx hb dX8_leastSetting_18 (by decide) (fun c1 => ?_) (fun c1 => ?_)
      · have h := h.1 c1
        exact kX8_leastSetting_b25 hx hb hml hown hts hA hKn hret ih q x1 x2 _ _ _ h hP hD hS (lv_sub hl [0, 1, 2] rfl)
      · have h := h.2 c1
        refine lv_iload_n hx hb dX8_leastSetting_21 rfl (lv_at hl 2 rfl) ?_
        refine lv_iconst (v := (1 : Int32)) hx hb dX8_leastSetting_22 (by decide) ?_
        refine lv_iadd hx hb dX8_leastSetting_23 ?_
        refine lv_topi (fun y2 ey2 => ?_)
        have h := h y2 ey2
        refine lv_istore_n (lv' := [(1, .int y2), (0, .ref (a 14)), (2, .int x2)]) hx hb dX8_leastSetting_24 rfl hl (by decide) rfl (fun ls hl => ?_)
        exact kX8_leastSetting_b25 hx hb hml hown hts hA hKn hret ih q y2 x2 _ _ _ h hP hD hS (lv_sub hl [1, 0, 2] rfl)
set_option maxHeartbeats 4000000 in
set_option maxRecDepth 100000 in
theorem mX8_leastSetting (l : Launch) (G : qG) (k : Int32 → qS → Prop) (R : va_W) (a : Nat → Nat) (q : qS) (sz : Nat) : Met l yX8_leastSetting wsX8_leastSetting rmX8_leastSetting (qPc G [.ref (a 14)] (wQ G a q ++ R) sz (wX8_leastSetting k q)) (qQi G (wQ G a q ++ R) sz (fun (r : Int32) (u : qS) => k r u) (fun (u : qS) => wQ G a u ++ R)) 0 0 (va_A (wQ G a q ++ R) sz) := by
  refine Met.ofW (cc := cX8_leastSetting) (maxL := 3) (ret := (some .int)) (by decide) rfl ?_
  intro p e s m args below meth c s₁ B hml hv
  obtain ⟨rfl, hsz, hP, hD0, hKn0, h⟩ := hv
  have hx := B.exec
  have hb := B.bytes
  have hr := B.returns
  have hts := atoms_spec (ws := wsX8_leastSetting) B.pre
  have hown : s.vm.findClass RX8 = some m.cls := findClass_of_methodNamed B.named
  have hlocks := B.notSynchronized
  subst hsz
  have hD := hD0.self (sz := s.heap.size)
  generalize hAe : va_A (wQ G a q ++ R) s.heap.size = A at hD hKn0 ⊢
  have hA : ∀ q : Nat, s.heap.size ≤ q → A q := fun q h => by rw [← hAe]; exact Or.inr h
  have hKn : qKn G A s s.heap := hKn0
  have hS : va_S A s.heap s.heap [] := va_S.rf
  have hret : ∀ (r : Int32) (q' : qS) (H : Heap) (locs : List Loc) (ls : Array Slot) (pc : Nat), k r q' → va_P G.1 vwCl (wQ G a q' ++ R) H → va_D A (wQ G a q' ++ R) → va_S A s.heap H locs → decode cX8_leastSetting pc = .ok (.ireturn, 1) → W p l e rmX8_leastSetting s m #[.ref (a 14)] below meth c H locs 0 0 (MQ below (qQi G (wQ G a q ++ R) s.heap.size (fun (r : Int32) (u : qS) => k r u) (fun (u : qS) => wQ G a u ++ R)) #[.ref (a 14)] s 0 0 A) (F0 m pc ls [.int r]) := fun r q' H locs ls pc hk hP hD hS hd => W.iret hx hb hr (fun t ht hW => q_ri (u := (q' : qS)) hAe hk hP hD hS ht) hS.2.2 hd
  have hl := lv_entry ([.ref (a 14)]) (n := 3) (Nat.le_of_ble_eq_true rfl)
  rw [lg_entry_eq]
  generalize (lg_sl ([.ref (a 14)]) ++ List.replicate (3 - (lg_sl ([.ref (a 14)])).length) Slot.unset).toArray = ls at hl ⊢
  have hl : lv_has ls 3 [(0, .ref (a 14))] := hl
  unfold wX8_leastSetting at h
  show W p l e rmX8_leastSetting s m #[.ref (a 14)] below meth c s.heap [] 0 0 _ _
  refine lv_iconst (v := (0 : Int32)) hx hb dX8_leastSetting_0 (by decide) ?_
  refine lv_istore_n (lv' := [(1, .int (0 : Int32)), (0, .ref (a 14))]) hx hb dX8_leastSetting_1 rfl hl (by decide) rfl (fun ls hl => ?_)
  refine lv_iconst (v := (0 : Int32)) hx hb dX8_leastSetting_2 (by decide) ?_
  refine lv_istore_n (lv' := [(2, .int (0 : Int32)), (1, .int (0 : Int32)), (0, .ref (a 14))]) hx hb dX8_leastSetting_3 rfl hl (by decide) rfl (fun ls hl => ?_)
  obtain ⟨n3, h⟩ := h
  exact kX8_leastSetting_b4 hx hb hml hown hts hA hKn hret n3 q (0 : Int32) (0 : Int32) _ _ _ h hP hD hS (lv_sub hl [2, 1, 0] rfl)
abbrev rmX6_changeSetting : Room := { frames := 1, cells := 0, slots := 0, locals := 22 }
theorem lX6_changeSetting_f18 : Cond.fieldLink RX6 18 "QuarryBlends$Quarry" "settings" "[I" ∈ wsX6_changeSetting := by decide +kernel
theorem lX6_changeSetting_f33 : Cond.fieldLink RX6 33 "QuarryBlends$Quarry" "trucks" "LQuarryBlends$Trucks;" ∈ wsX6_changeSetting := by decide +kernel
theorem lX6_changeSetting_nX9 : Cond.initialized RX9 ∈ wsX6_changeSetting := by decide +kernel
theorem lX6_changeSetting_sX9_within : Cond.static yX9_within ∈ wsX6_changeSetting := by decide +kernel
theorem iX6_changeSetting_X6 : ∀ w ∈ wsX60, w ∈ wsX6_changeSetting := by decide +kernel
set_option maxHeartbeats 4000000 in
set_option maxRecDepth 100000 in
theorem kX6_changeSetting_b50 {p : Program} {l : Launch} {e : Env} {s : State} {m : MethodId} {args : Array Value} {below : List Frame} {meth : Method} {c : Code} {G : qG} {A : Nat → Prop} {Qf : State → Prop} {R : va_W} {a : Nat → Nat} {k : Int32 → qS → Prop} (hx : p.tables.exec = Jvm.exec) (hb : c.code = cX6_changeSetting) (hml : c.maxLocals = 4) (hown : s.vm.findClass RX6 = some m.cls) (hts : ∀ w ∈ wsX6_changeSetting, w.before args s = true) (hA : ∀ q : Nat, s.heap.size ≤ q → A q) (hKn : qKn G A s s.heap) (hret : ∀ (r : Int32) (q : qS) (H : Heap) (locs : List Loc) (ls : Array Slot) (pc : Nat), k r q → va_P G.1 vwCl (wQ G a q ++ R) H → va_D A (wQ G a q ++ R) → va_S A s.heap H locs → decode cX6_changeSetting pc = .ok (.ireturn, 1) → W p l e rmX6_changeSetting s m args below meth c H locs 0 0 Qf (F0 m pc ls [.int r])) : ∀ (q : qS) (x1 : Int32) (x2 : Int32) (H : Heap) (locs : List Loc) (ls : Array Slot), wX6_changeSetting_b50 k q x1 x2 → va_P G.1 vwCl (wQ G a q ++ R) H → va_D A (wQ G a q ++ R) → va_S A s.heap H locs → lv_has ls 4 [(0, .ref (a 0)), (1, .int x1), (2, .int x2)] → W p l e rmX6_changeSetting s m args below meth c H locs 0 0 Qf (F0 m 50 ls []) := by
  intro q x1 x2 H locs ls h hP hD hS hl
  unfold wX6_changeSetting_b50 at h
  refine lv_aload_n hx hb dX6_changeSetting_50 rfl (lv_at hl 0 rfl) ?_
  refine va_get (D := G.1) (ci := 6) (v := .ref (a 1)) (C := RX6) (T := TX6) (N := 10) hx hb hts iX6_changeSetting_X6 hown hKn.k hP 0 rfl rfl 0 (by decide) (hts _ lX6_changeSetting_f18) (fun _ h9 => h9) rfl dX6_changeSetting_51 ?_
  refine lv_iload_n hx hb dX6_changeSetting_54 rfl (lv_at hl 1 rfl) ?_
  obtain ⟨hin, h⟩ := h
  refine va_iald hx hb hKn.k hP 1 0 rfl rfl hin dX6_changeSetting_55 ?_
  refine lv_topi (fun y1 ey1 => ?_)
  have h := h y1 ey1
  refine lv_istore_n (lv' := [(3, .int y1), (0, .ref (a 0)), (1, .int x1), (2, .int x2)]) hx hb dX6_changeSetting_56 rfl hl (by decide) rfl (fun ls hl => ?_)
  refine lv_aload_n hx hb dX6_changeSetting_57 rfl (lv_at hl 1 rfl) ?_
  refine va_get (D := G.1) (ci := 6) (v := .ref (a 1)) (C := RX6) (T := TX6) (N := 10) hx hb hts iX6_changeSetting_X6 hown hKn.k hP 0 rfl rfl 0 (by decide) (hts _ lX6_changeSetting_f18) (fun _ h9 => h9) rfl dX6_changeSetting_58 ?_
  refine lv_iload_n hx hb dX6_changeSetting_61 rfl (lv_at hl 2 rfl) ?_
  refine lv_iload_n hx hb dX6_changeSetting_62 rfl (lv_at hl 3 rfl) ?_
  obtain ⟨hin, h⟩ := h
  refine va_iast hx hb hKn.k hP hD hS 1 0 rfl rfl hin dX6_changeSetting_63 (fun H locs hP hD hS => ?_)
  obtain ⟨q2, eq2⟩ : ∃ z : qS, z = up2 q 1 (Int32.toNatClampNeg x1) x2 := ⟨_, rfl⟩
  have hP : va_P G.1 vwCl (wQ G a q2 ++ R) H := by rw [eq2]; exact hP
  have hD : va_D A (wQ G a q2 ++ R) := by rw [eq2]; exact hD
  have h := h q2 eq2
  refine lv_iload_n hx hb dX6_changeSetting_64 rfl (lv_at hl 0 rfl) ?_
  exact hret _ _ _ _ _ _ h hP hD hS dX6_changeSetting_65
set_option maxHeartbeats 4000000 in
set_option maxRecDepth 100000 in
theorem mX6_changeSetting (l : Launch) (G : qG) (k : Int32 → qS → Prop) (R : va_W) (a : Nat → Nat) (q : qS) (sz : Nat) (p0 : Int32) (p1 : Int32) : Met l yX6_changeSetting wsX6_changeSetting rmX6_changeSetting (qPc G [.ref (a 0), .int p0, .int p1] (wQ G a q ++ R) sz (wX6_changeSetting k q p0 p1)) (qQi G (wQ G a q ++ R) sz (fun (r : Int32) (u : qS) => k r u) (fun (u : qS) => wQ G a u ++ R)) 0 0 (va_A (wQ G a q ++ R) sz) := by
  refine Met.ofW (cc := cX6_changeSetting) (maxL := 4) (ret := (some .int)) (by decide) rfl ?_
  intro p e s m args below meth c s₁ B hml hv
  obtain ⟨rfl, hsz, hP, hD0, hKn0, h⟩ := hv
  have hx := B.exec
  have hb := B.bytes
  have hr := B.returns
  have hts := atoms_spec (ws := wsX6_changeSetting) B.pre
  have hown : s.vm.findClass RX6 = some m.cls := findClass_of_methodNamed B.named
  have hlocks := B.notSynchronized
  subst hsz
  have hD := hD0.self (sz := s.heap.size)
  generalize hAe : va_A (wQ G a q ++ R) s.heap.size = A at hD hKn0 ⊢
  have hA : ∀ q : Nat, s.heap.size ≤ q → A q := fun q h => by rw [← hAe]; exact Or.inr h
  have hKn : qKn G A s s.heap := hKn0
  have hS : va_S A s.heap s.heap [] := va_S.rf
  have hret : ∀ (r : Int32) (q' : qS) (H : Heap) (locs : List Loc) (ls : Array Slot) (pc : Nat), k r q' → va_P G.1 vwCl (wQ G a q' ++ R) H → va_D A (wQ G a q' ++ R) → va_S A s.heap H locs → decode cX6_changeSetting pc = .ok (.ireturn, 1) → W p l e rmX6_changeSetting s m #[.ref (a 0), .int p0, .int p1] below meth c H locs 0 0 (MQ below (qQi G (wQ G a q ++ R) s.heap.size (fun (r : Int32) (u : qS) => k r u) (fun (u : qS) => wQ G a u ++ R)) #[.ref (a 0), .int p0, .int p1] s 0 0 A) (F0 m pc ls [.int r]) := fun r q' H locs ls pc hk hP hD hS hd => W.iret hx hb hr (fun t ht hW => q_ri (u := (q' : qS)) hAe hk hP hD hS ht) hS.2.2 hd
  have hl := lv_entry ([.ref (a 0), .int p0, .int p1]) (n := 4) (Nat.le_of_ble_eq_true rfl)
  rw [lg_entry_eq]
  generalize (lg_sl ([.ref (a 0), .int p0, .int p1]) ++ List.replicate (4 - (lg_sl ([.ref (a 0), .int p0, .int p1])).length) Slot.unset).toArray = ls at hl ⊢
  have hl : lv_has ls 4 [(0, .ref (a 0)), (1, .int p0), (2, .int p1)] := hl
  unfold wX6_changeSetting at h
  show W p l e rmX6_changeSetting s m #[.ref (a 0), .int p0, .int p1] below meth c s.heap [] 0 0 _ _
  refine lv_iload_n hx hb dX6_changeSetting_0 rfl (lv_at hl 1 rfl) ?_
  refine lv_iconst (v := (0 : Int32)) hx hb dX6_changeSetting_1 (by decide) ?_
  refine lv_iconst (v := (5 : Int32)) hx hb dX6_changeSetting_2 (by decide) ?_
  refine qc_ni (As := [.int p0, .int (0 : Int32), .int (5 : Int32)]) (rest := []) ⟨hx, hb, hml, hown, hts⟩ (mX9_within l G _ _ _ p0 (0 : Int32) (5 : Int32)) ⟨va_cnB 3 hts gX6_changeSetting_X9_within_n88 rfl rfl rfl (hKn.2.1 _ (List.mem_of_getElem? (i := 14) rfl)) (hts _ lX6_changeSetting_nX9) (by decide +kernel) ⟨Nat.le_of_ble_eq_true rfl, Nat.le_of_ble_eq_true rfl⟩, (hts _ lX6_changeSetting_sX9_within), trivial⟩ hP hD hS hA hKn h rfl hl.1 rfl (Nat.le_of_ble_eq_true rfl) dX6_changeSetting_3 ⟨Nat.zero_le _, Nat.zero_le _⟩ (fun r3 _ H locs h hP hD hS => ?_)
  have hP : va_P G.1 vwCl (wQ G a q ++ R) H := hP
  have hD : va_D A (wQ G a q ++ R) := hD
  refine lv_if_ne (tgt := 12) hx hb dX6_changeSetting_6 (by decide) (fun c1 => ?_) (fun c1 => ?_)
  · have h := h.1 c1
    refine lv_iload_n hx hb dX6_changeSetting_12 rfl (lv_at hl 2 rfl) ?_
    refine va_getsN (ref := "QuarryBlends") (host := "QuarryBlends") hx hb (hKn.2.2.1 _ (List.mem_of_getElem? (i := 1) rfl)) hS hown (va_Nw.use rfl (hKn.2.2.2.2.2.2.2 _ (List.mem_of_getElem? (i := 1) rfl))) (fun _ h9 => h9) dX6_changeSetting_13 ?_
    refine lv_iload_n hx hb dX6_changeSetting_16 rfl (lv_at hl 1 rfl) ?_
    obtain ⟨hin, h⟩ := h
    refine va_ti hx hb (hKn.2.2.2.1 _ (List.mem_of_getElem? (i := 1) rfl)) hS hin rfl dX6_changeSetting_17 ?_
    refine va_getsN (ref := "QuarryBlends") (host := "QuarryBlends") hx hb (hKn.2.2.1 _ (List.mem_of_getElem? (i := 2) rfl)) hS hown (va_Nw.use rfl (hKn.2.2.2.2.2.2.2 _ (List.mem_of_getElem? (i := 2) rfl))) (fun _ h9 => h9) dX6_changeSetting_18 ?_
    refine lv_iload_n hx hb dX6_changeSetting_21 rfl (lv_at hl 1 rfl) ?_
    obtain ⟨hin, h⟩ := h
    refine va_ti hx hb (hKn.2.2.2.1 _ (List.mem_of_getElem? (i := 2) rfl)) hS hin rfl dX6_changeSetting_22 ?_
    refine qc_ni (As := [.int p1, .int (([0, 1, 1, 1, 1, 0] : List Int32).getD (Int32.toNatClampNeg p0) 0), .int (([20, 40, 24, 9, 200, 99] : List Int32).getD (Int32.toNatClampNeg p0) 0)]) (rest := []) ⟨hx, hb, hml, hown, hts⟩ (mX9_within l G _ _ _ p1 (([0, 1, 1, 1, 1, 0] : List Int32).getD (Int32.toNatClampNeg p0) 0) (([20, 40, 24, 9, 200, 99] : List Int32).getD (Int32.toNatClampNeg p0) 0)) ⟨va_cnB 3 hts gX6_changeSetting_X9_within_n88 rfl rfl rfl (hKn.2.1 _ (List.mem_of_getElem? (i := 14) rfl)) (hts _ lX6_changeSetting_nX9) (by decide +kernel) ⟨Nat.le_of_ble_eq_true rfl, Nat.le_of_ble_eq_true rfl⟩, (hts _ lX6_changeSetting_sX9_within), trivial⟩ hP hD hS hA hKn h rfl hl.1 rfl (Nat.le_of_ble_eq_true rfl) dX6_changeSetting_23 ⟨Nat.zero_le _, Nat.zero_le _⟩ (fun r4 _ H locs h hP hD hS => ?_)
    have hP : va_P G.1 vwCl (wQ G a q ++ R) H := hP
    have hD : va_D A (wQ G a q ++ R) := hD
    refine lv_if_ne (tgt := 32) hx hb dX6_changeSetting_26 (by decide) (fun c1 => ?_) (fun c1 => ?_)
    · have h := h.1 c1
      refine lv_iload_n hx hb dX6_changeSetting_32 rfl (lv_at hl 1 rfl) ?_
      refine lv_if_ne (tgt := 50) hx hb dX6_changeSetting_33 (by decide) (fun c1 => ?_) (fun c1 => ?_)
      · have h := h.1 c1
        exact kX6_changeSetting_b50 hx hb hml hown hts hA hKn hret q p0 p1 _ _ _ h hP hD hS (lv_sub hl [0, 1, 2] rfl)
      · have h := h.2 c1
        refine lv_iload_n hx hb dX6_changeSetting_36 rfl (lv_at hl 2 rfl) ?_
        refine lv_aload_n hx hb dX6_changeSetting_37 rfl (lv_at hl 0 rfl) ?_
        refine va_get (D := G.1) (ci := 6) (v := .ref (a 14)) (C := RX6) (T := TX6) (N := 10) hx hb hts iX6_changeSetting_X6 hown hKn.k hP 0 rfl rfl 2 (by decide) (hts _ lX6_changeSetting_f33) (fun _ h9 => h9) rfl dX6_changeSetting_38 ?_
        refine qc_vi (As := []) (rest := [.int p1]) ⟨hx, hb, hml, hown, hts⟩ (mX8_leastSetting l G _ _ a q _ ) (cwV 0 hts gX6_changeSetting_X8_leastSetting rfl rfl rfl (by decide +kernel) ⟨Nat.le_of_ble_eq_true rfl, Nat.le_of_ble_eq_true rfl⟩) hP hD hS hA hKn 7 8 rfl rfl rfl h rfl hl.1 rfl (Nat.le_of_ble_eq_true rfl) dX6_changeSetting_41 ⟨Nat.zero_le _, Nat.zero_le _⟩ (fun r5 q6 H locs h hP hD hS => ?_)
        have hP : va_P G.1 vwCl (wQ G a q6 ++ R) H := hP
        have hD : va_D A (wQ G a q6 ++ R) := hD
        refine lv_icmp_ge (tgt := 50) hx hb dX6_changeSetting_44 (by decide) (fun c1 => ?_) (fun c1 => ?_)
        · have h := h.1 c1
          exact kX6_changeSetting_b50 hx hb hml hown hts hA hKn hret q6 p0 p1 _ _ _ h hP hD hS (lv_sub hl [0, 1, 2] rfl)
        · have h := h.2 c1
          refine lv_bipush (v := (-5 : Int32)) hx hb dX6_changeSetting_47 (by decide) ?_
          exact hret _ _ _ _ _ _ h hP hD hS dX6_changeSetting_49
    · have h := h.2 c1
      refine lv_bipush (v := (-2 : Int32)) hx hb dX6_changeSetting_29 (by decide) ?_
      exact hret _ _ _ _ _ _ h hP hD hS dX6_changeSetting_31
  · have h := h.2 c1
    refine lv_bipush (v := (-2 : Int32)) hx hb dX6_changeSetting_9 (by decide) ?_
    exact hret _ _ _ _ _ _ h hP hD hS dX6_changeSetting_11
abbrev rmX6_bringLoads : Room := { frames := 2, cells := 0, slots := 0, locals := 44 }
theorem lX6_bringLoads_f122 : Cond.fieldLink RX6 122 "QuarryBlends$Trucks" "from" "[I" ∈ wsX6_bringLoads := by decide +kernel
theorem lX6_bringLoads_f125 : Cond.fieldLink RX6 125 "QuarryBlends$Trucks" "back" "[I" ∈ wsX6_bringLoads := by decide +kernel
theorem lX6_bringLoads_f132 : Cond.fieldLink RX6 132 "QuarryBlends$Trucks" "load" "[I" ∈ wsX6_bringLoads := by decide +kernel
theorem lX6_bringLoads_f135 : Cond.fieldLink RX6 135 "QuarryBlends$Faces" "hardness" "[I" ∈ wsX6_bringLoads := by decide +kernel
theorem lX6_bringLoads_f26 : Cond.fieldLink RX6 26 "QuarryBlends$Quarry" "faces" "LQuarryBlends$Faces;" ∈ wsX6_bringLoads := by decide +kernel
theorem lX6_bringLoads_f33 : Cond.fieldLink RX6 33 "QuarryBlends$Quarry" "trucks" "LQuarryBlends$Trucks;" ∈ wsX6_bringLoads := by decide +kernel
theorem lX6_bringLoads_f40 : Cond.fieldLink RX6 40 "QuarryBlends$Quarry" "crusher" "LQuarryBlends$Crusher;" ∈ wsX6_bringLoads := by decide +kernel
theorem lX6_bringLoads_f75 : Cond.fieldLink RX6 75 "QuarryBlends$Quarry" "hours" "I" ∈ wsX6_bringLoads := by decide +kernel
theorem iX6_bringLoads_X3 : ∀ w ∈ wsX30, w ∈ wsX6_bringLoads := by decide +kernel
theorem iX6_bringLoads_X6 : ∀ w ∈ wsX60, w ∈ wsX6_bringLoads := by decide +kernel
theorem iX6_bringLoads_X8 : ∀ w ∈ wsX80, w ∈ wsX6_bringLoads := by decide +kernel
set_option maxHeartbeats 4000000 in
set_option maxRecDepth 100000 in
theorem kX6_bringLoads_b81 {p : Program} {l : Launch} {e : Env} {s : State} {m : MethodId} {args : Array Value} {below : List Frame} {meth : Method} {c : Code} {G : qG} {A : Nat → Prop} {Qf : State → Prop} {R : va_W} {a : Nat → Nat} {k : qS → Prop} (hx : p.tables.exec = Jvm.exec) (hb : c.code = cX6_bringLoads) (hml : c.maxLocals = 3) (hown : s.vm.findClass RX6 = some m.cls) (hts : ∀ w ∈ wsX6_bringLoads, w.before args s = true) (hA : ∀ q : Nat, s.heap.size ≤ q → A q) (hKn : qKn G A s s.heap) (hret : ∀ (q : qS) (H : Heap) (locs : List Loc) (ls : Array Slot) (pc : Nat), k q → va_P G.1 vwCl (wQ G a q ++ R) H → va_D A (wQ G a q ++ R) → va_S A s.heap H locs → decode cX6_bringLoads pc = .ok (.return_, 1) → W p l e rmX6_bringLoads s m args below meth c H locs 0 0 Qf (F0 m pc ls [])) {kb2 : qS → Int32 → Prop} (hkb2 : ∀ (q : qS) (x1 : Int32) (H : Heap) (locs : List Loc) (ls : Array Slot), kb2 q x1 → va_P G.1 vwCl (wQ G a q ++ R) H → va_D A (wQ G a q ++ R) → va_S A s.heap H locs → lv_has ls 3 [(0, .ref (a 0)), (1, .int x1)] → W p l e rmX6_bringLoads s m args below meth c H locs 0 0 Qf (F0 m 2 ls [])) : ∀ (q : qS) (x1 : Int32) (H : Heap) (locs : List Loc) (ls : Array Slot), wX6_bringLoads_b81 k kb2 q x1 → va_P G.1 vwCl (wQ G a q ++ R) H → va_D A (wQ G a q ++ R) → va_S A s.heap H locs → lv_has ls 3 [(0, .ref (a 0)), (1, .int x1)] → W p l e rmX6_bringLoads s m args below meth c H locs 0 0 Qf (F0 m 81 ls []) := by
  intro q x1 H locs ls h hP hD hS hl
  unfold wX6_bringLoads_b81 at h
  obtain ⟨y1, ey1⟩ : ∃ z : Int32, z = x1 + (1 : Int32) := ⟨_, rfl⟩
  have h := h y1 ey1
  refine lv_iinc (v := y1) (lv' := [(1, .int y1), (0, .ref (a 0))]) hx hb dX6_bringLoads_81 hl (k := 1) rfl (by rw [ey1]; rfl) (by decide) rfl (fun ls hl => ?_)
  refine lv_goto (tgt := 2) hx hb dX6_bringLoads_84 (by decide) ?_
  exact hkb2 q y1 _ _ _ h hP hD hS (lv_sub hl [1, 0] rfl)
set_option maxHeartbeats 4000000 in
set_option maxRecDepth 100000 in
theorem kX6_bringLoads_b2 {p : Program} {l : Launch} {e : Env} {s : State} {m : MethodId} {args : Array Value} {below : List Frame} {meth : Method} {c : Code} {G : qG} {A : Nat → Prop} {Qf : State → Prop} {R : va_W} {a : Nat → Nat} {k : qS → Prop} (hx : p.tables.exec = Jvm.exec) (hb : c.code = cX6_bringLoads) (hml : c.maxLocals = 3) (hown : s.vm.findClass RX6 = some m.cls) (hts : ∀ w ∈ wsX6_bringLoads, w.before args s = true) (hA : ∀ q : Nat, s.heap.size ≤ q → A q) (hKn : qKn G A s s.heap) (hret : ∀ (q : qS) (H : Heap) (locs : List Loc) (ls : Array Slot) (pc : Nat), k q → va_P G.1 vwCl (wQ G a q ++ R) H → va_D A (wQ G a q ++ R) → va_S A s.heap H locs → decode cX6_bringLoads pc = .ok (.return_, 1) → W p l e rmX6_bringLoads s m args below meth c H locs 0 0 Qf (F0 m pc ls [])) : ∀ (n : Nat) (q : qS) (x1 : Int32) (H : Heap) (locs : List Loc) (ls : Array Slot), wX6_bringLoads_b2 k n q x1 → va_P G.1 vwCl (wQ G a q ++ R) H → va_D A (wQ G a q ++ R) → va_S A s.heap H locs → lv_has ls 3 [(0, .ref (a 0)), (1, .int x1)] → W p l e rmX6_bringLoads s m args below meth c H locs 0 0 Qf (F0 m 2 ls []) := by
  intro n
  induction n with
  | zero => intros; rename_i h _ _ _ _; exact h.elim
  | succ n ih =>
    intro q x1 H locs ls h hP hD hS hl
    unfold wX6_bringLoads_b2 at h
    refine lv_iload_n hx hb dX6_bringLoads_2 rfl (lv_at hl 1 rfl) ?_
    refine lv_bipush (v := (20 : Int32)) hx hb dX6_bringLoads_3 (by decide) ?_
    refine lv_icmp_ge (tgt := 87) hx hb dX6_bringLoads_5 (by decide) (fun c1 => ?_) (fun c1 => ?_)
    · have h := h.1 c1
      exact hret _ _ _ _ _ h hP hD hS dX6_bringLoads_87
    · have h := h.2 c1
      refine lv_aload_n hx hb dX6_bringLoads_8 rfl (lv_at hl 0 rfl) ?_
      refine va_get (D := G.1) (ci := 6) (v := .ref (a 14)) (C := RX6) (T := TX6) (N := 10) hx hb hts iX6_bringLoads_X6 hown hKn.k hP 0 rfl rfl 2 (by decide) (hts _ lX6_bringLoads_f33) (fun _ h9 => h9) rfl dX6_bringLoads_9 ?_
      refine va_get (D := G.1) (ci := 8) (v := .ref (a 6)) (C := RX8) (T := TX8) (N := 4) hx hb hts iX6_bringLoads_X8 hown hKn.k hP 7 rfl rfl 0 (by decide) (hts _ lX6_bringLoads_f122) (fun _ h9 => h9) rfl dX6_bringLoads_12 ?_
      refine lv_iload_n hx hb dX6_bringLoads_15 rfl (lv_at hl 1 rfl) ?_
      obtain ⟨hin, h⟩ := h
      refine va_iald hx hb hKn.k hP 8 0 rfl rfl hin dX6_bringLoads_16 ?_
      refine lv_topi (fun y2 ey2 => ?_)
      have h := h y2 ey2
      refine lv_istore_n (lv' := [(2, .int y2), (0, .ref (a 0)), (1, .int x1)]) hx hb dX6_bringLoads_17 rfl hl (by decide) rfl (fun ls hl => ?_)
      refine lv_aload_n hx hb dX6_bringLoads_18 rfl (lv_at hl 1 rfl) ?_
      refine va_get (D := G.1) (ci := 6) (v := .ref (a 14)) (C := RX6) (T := TX6) (N := 10) hx hb hts iX6_bringLoads_X6 hown hKn.k hP 0 rfl rfl 2 (by decide) (hts _ lX6_bringLoads_f33) (fun _ h9 => h9) rfl dX6_bringLoads_19 ?_
      refine va_get (D := G.1) (ci := 8) (v := .ref (a 8)) (C := RX8) (T := TX8) (N := 4) hx hb hts iX6_bringLoads_X8 hown hKn.k hP 7 rfl rfl 2 (by decide) (hts _ lX6_bringLoads_f125) (fun _ h9 => h9) rfl dX6_bringLoads_22 ?_
      refine lv_iload_n hx hb dX6_bringLoads_25 rfl (lv_at hl 2 rfl) ?_
      obtain ⟨hin, h⟩ := h
      refine va_iald hx hb hKn.k hP 10 0 rfl rfl hin dX6_bringLoads_26 ?_
      refine lv_aload_n hx hb dX6_bringLoads_27 rfl (lv_at hl 1 rfl) ?_
      refine va_get (D := G.1) (ci := 6) (v := .int (q 0 0)) (C := RX6) (T := TX6) (N := 10) hx hb hts iX6_bringLoads_X6 hown hKn.k hP 0 rfl rfl 6 (by decide) (hts _ lX6_bringLoads_f75) (fun _ h9 => h9) rfl dX6_bringLoads_28 ?_
      refine lv_icmp_ne (tgt := 81) hx hb dX6_bringLoads_31 (by decide) (fun c1 => ?_) (fun c1 => ?_)
      · have h := h.1 c1
        exact kX6_bringLoads_b81 hx hb hml hown hts hA hKn hret ih q x1 _ _ _ h hP hD hS (lv_sub hl [1, 2] rfl)
      · have h := h.2 c1
        refine lv_aload_n hx hb dX6_bringLoads_34 rfl (lv_at hl 1 rfl) ?_
        refine va_get (D := G.1) (ci := 6) (v := .ref (a 13)) (C := RX6) (T := TX6) (N := 10) hx hb hts iX6_bringLoads_X6 hown hKn.k hP 0 rfl rfl 1 (by decide) (hts _ lX6_bringLoads_f26) (fun _ h9 => h9) rfl dX6_bringLoads_35 ?_
        refine lv_iload_n hx hb dX6_bringLoads_38 rfl (lv_at hl 0 rfl) ?_
        refine qc_vi (As := [.int y2]) (rest := []) ⟨hx, hb, hml, hown, hts⟩ (mX3_has l G _ _ a q _ y2) (cwV 1 hts gX6_bringLoads_X3_has rfl rfl rfl (by decide +kernel) ⟨Nat.le_of_ble_eq_true rfl, Nat.le_of_ble_eq_true rfl⟩) hP hD hS hA hKn 2 3 rfl rfl rfl h rfl hl.1 rfl (Nat.le_of_ble_eq_true rfl) dX6_bringLoads_39 ⟨Nat.zero_le _, Nat.zero_le _⟩ (fun r3 q4 H locs h hP hD hS => ?_)
        have hP : va_P G.1 vwCl (wQ G a q4 ++ R) H := hP
        have hD : va_D A (wQ G a q4 ++ R) := hD
        refine lv_if_eq (tgt := 81) hx hb dX6_bringLoads_42 (by decide) (fun c1 => ?_) (fun c1 => ?_)
        · have h := h.1 c1
          exact kX6_bringLoads_b81 hx hb hml hown hts hA hKn hret ih q4 x1 _ _ _ h hP hD hS (lv_sub hl [1, 2] rfl)
        · have h := h.2 c1
          refine lv_aload_n hx hb dX6_bringLoads_45 rfl (lv_at hl 1 rfl) ?_
          refine va_get (D := G.1) (ci := 6) (v := .ref (a 15)) (C := RX6) (T := TX6) (N := 10) hx hb hts iX6_bringLoads_X6 hown hKn.k hP 0 rfl rfl 3 (by decide) (hts _ lX6_bringLoads_f40) (fun _ h9 => h9) rfl dX6_bringLoads_46 ?_
          refine lv_aload_n hx hb dX6_bringLoads_49 rfl (lv_at hl 1 rfl) ?_
          refine va_get (D := G.1) (ci := 6) (v := .ref (a 14)) (C := RX6) (T := TX6) (N := 10) hx hb hts iX6_bringLoads_X6 hown hKn.k hP 0 rfl rfl 2 (by decide) (hts _ lX6_bringLoads_f33) (fun _ h9 => h9) rfl dX6_bringLoads_50 ?_
          refine va_get (D := G.1) (ci := 8) (v := .ref (a 7)) (C := RX8) (T := TX8) (N := 4) hx hb hts iX6_bringLoads_X8 hown hKn.k hP 7 rfl rfl 1 (by decide) (hts _ lX6_bringLoads_f132) (fun _ h9 => h9) rfl dX6_bringLoads_53 ?_
          refine lv_iload_n hx hb dX6_bringLoads_56 rfl (lv_at hl 2 rfl) ?_
          obtain ⟨hin, h⟩ := h
          refine va_iald hx hb hKn.k hP 9 0 rfl rfl hin dX6_bringLoads_57 ?_
          refine lv_aload_n hx hb dX6_bringLoads_58 rfl (lv_at hl 1 rfl) ?_
          refine va_get (D := G.1) (ci := 6) (v := .ref (a 13)) (C := RX6) (T := TX6) (N := 10) hx hb hts iX6_bringLoads_X6 hown hKn.k hP 0 rfl rfl 1 (by decide) (hts _ lX6_bringLoads_f26) (fun _ h9 => h9) rfl dX6_bringLoads_59 ?_
          refine va_get (D := G.1) (ci := 3) (v := .ref (a 4)) (C := RX3) (T := TX3) (N := 5) hx hb hts iX6_bringLoads_X3 hown hKn.k hP 2 rfl rfl 2 (by decide) (hts _ lX6_bringLoads_f135) (fun _ h9 => h9) rfl dX6_bringLoads_62 ?_
          refine lv_iload_n hx hb dX6_bringLoads_65 rfl (lv_at hl 0 rfl) ?_
          obtain ⟨hin, h⟩ := h
          refine va_iald hx hb hKn.k hP 5 0 rfl rfl hin dX6_bringLoads_66 ?_
          refine qc_vv (As := [.int (q4 7 (Int32.toNatClampNeg x1)), .int (q4 4 (Int32.toNatClampNeg y2))]) (rest := []) ⟨hx, hb, hml, hown, hts⟩ (mX2_bring l G _ _ a q4 _ (q4 7 (Int32.toNatClampNeg x1)) (q4 4 (Int32.toNatClampNeg y2))) (cwV 2 hts gX6_bringLoads_X2_bring rfl rfl rfl (by decide +kernel) ⟨Nat.le_of_ble_eq_true rfl, Nat.le_of_ble_eq_true rfl⟩) hP hD hS hA hKn 12 2 rfl rfl rfl h rfl hl.1 rfl (Nat.le_of_ble_eq_true rfl) dX6_bringLoads_67 ⟨Nat.zero_le _, Nat.zero_le _⟩ (fun q6 H locs h hP hD hS => ?_)
          have hP : va_P G.1 vwCl (wQ G a q6 ++ R) H := hP
          have hD : va_D A (wQ G a q6 ++ R) := hD
          refine lv_aload_n hx hb dX6_bringLoads_70 rfl (lv_at hl 1 rfl) ?_
          refine va_get (D := G.1) (ci := 6) (v := .ref (a 14)) (C := RX6) (T := TX6) (N := 10) hx hb hts iX6_bringLoads_X6 hown hKn.k hP 0 rfl rfl 2 (by decide) (hts _ lX6_bringLoads_f33) (fun _ h9 => h9) rfl dX6_bringLoads_71 ?_
          refine va_get (D := G.1) (ci := 8) (v := .ref (a 6)) (C := RX8) (T := TX8) (N := 4) hx hb hts iX6_bringLoads_X8 hown hKn.k hP 7 rfl rfl 0 (by decide) (hts _ lX6_bringLoads_f122) (fun _ h9 => h9) rfl dX6_bringLoads_74 ?_
          refine lv_iload_n hx hb dX6_bringLoads_77 rfl (lv_at hl 2 rfl) ?_
          refine lv_bipush (v := (-6 : Int32)) hx hb dX6_bringLoads_78 (by decide) ?_
          obtain ⟨hin, h⟩ := h
          refine va_iast hx hb hKn.k hP hD hS 8 0 rfl rfl hin dX6_bringLoads_80 (fun H locs hP hD hS => ?_)
          obtain ⟨q7, eq7⟩ : ∃ z : qS, z = up2 q6 6 (Int32.toNatClampNeg x1) (-6 : Int32) := ⟨_, rfl⟩
          have hP : va_P G.1 vwCl (wQ G a q7 ++ R) H := by rw [eq7]; exact hP
          have hD : va_D A (wQ G a q7 ++ R) := by rw [eq7]; exact hD
          have h := h q7 eq7
          exact kX6_bringLoads_b81 hx hb hml hown hts hA hKn hret ih q7 x1 _ _ _ h hP hD hS (lv_sub hl [1, 2] rfl)
set_option maxHeartbeats 4000000 in
set_option maxRecDepth 100000 in
theorem mX6_bringLoads (l : Launch) (G : qG) (k : qS → Prop) (R : va_W) (a : Nat → Nat) (q : qS) (sz : Nat) : Met l yX6_bringLoads wsX6_bringLoads rmX6_bringLoads (qPc G [.ref (a 0)] (wQ G a q ++ R) sz (wX6_bringLoads k q)) (qQv G (wQ G a q ++ R) sz (fun (u : qS) => k u) (fun (u : qS) => wQ G a u ++ R)) 0 0 (va_A (wQ G a q ++ R) sz) := by
  refine Met.ofW (cc := cX6_bringLoads) (maxL := 3) (ret := none) (by decide) rfl ?_
  intro p e s m args below meth c s₁ B hml hv
  obtain ⟨rfl, hsz, hP, hD0, hKn0, h⟩ := hv
  have hx := B.exec
  have hb := B.bytes
  have hr := B.returns
  have hts := atoms_spec (ws := wsX6_bringLoads) B.pre
  have hown : s.vm.findClass RX6 = some m.cls := findClass_of_methodNamed B.named
  have hlocks := B.notSynchronized
  subst hsz
  have hD := hD0.self (sz := s.heap.size)
  generalize hAe : va_A (wQ G a q ++ R) s.heap.size = A at hD hKn0 ⊢
  have hA : ∀ q : Nat, s.heap.size ≤ q → A q := fun q h => by rw [← hAe]; exact Or.inr h
  have hKn : qKn G A s s.heap := hKn0
  have hS : va_S A s.heap s.heap [] := va_S.rf
  have hret : ∀ (q' : qS) (H : Heap) (locs : List Loc) (ls : Array Slot) (pc : Nat), k q' → va_P G.1 vwCl (wQ G a q' ++ R) H → va_D A (wQ G a q' ++ R) → va_S A s.heap H locs → decode cX6_bringLoads pc = .ok (.return_, 1) → W p l e rmX6_bringLoads s m #[.ref (a 0)] below meth c H locs 0 0 (MQ below (qQv G (wQ G a q ++ R) s.heap.size (fun (u : qS) => k u) (fun (u : qS) => wQ G a u ++ R)) #[.ref (a 0)] s 0 0 A) (F0 m pc ls []) := fun q' H locs ls pc hk hP hD hS hd => W.vret hx hb hr (fun t ht hW => q_rv (u := (q' : qS)) hAe hk hP hD hS ht) hS.2.2 hd
  have hl := lv_entry ([.ref (a 0)]) (n := 3) (Nat.le_of_ble_eq_true rfl)
  rw [lg_entry_eq]
  generalize (lg_sl ([.ref (a 0)]) ++ List.replicate (3 - (lg_sl ([.ref (a 0)])).length) Slot.unset).toArray = ls at hl ⊢
  have hl : lv_has ls 3 [(0, .ref (a 0))] := hl
  unfold wX6_bringLoads at h
  show W p l e rmX6_bringLoads s m #[.ref (a 0)] below meth c s.heap [] 0 0 _ _
  refine lv_iconst (v := (0 : Int32)) hx hb dX6_bringLoads_0 (by decide) ?_
  refine lv_istore_n (lv' := [(1, .int (0 : Int32)), (0, .ref (a 0))]) hx hb dX6_bringLoads_1 rfl hl (by decide) rfl (fun ls hl => ?_)
  obtain ⟨n8, h⟩ := h
  exact kX6_bringLoads_b2 hx hb hml hown hts hA hKn hret n8 q (0 : Int32) _ _ _ h hP hD hS (lv_sub hl [1, 0] rfl)
abbrev rmX8_isAway : Room := { frames := 1, cells := 0, slots := 0, locals := 22 }
theorem lX8_isAway_f9 : Cond.fieldLink RX8 9 "QuarryBlends$Trucks" "from" "[I" ∈ wsX8_isAway := by decide +kernel
theorem lX8_isAway_nX9 : Cond.initialized RX9 ∈ wsX8_isAway := by decide +kernel
theorem lX8_isAway_sX9_within : Cond.static yX9_within ∈ wsX8_isAway := by decide +kernel
theorem iX8_isAway_X8 : ∀ w ∈ wsX80, w ∈ wsX8_isAway := by decide +kernel
set_option maxHeartbeats 4000000 in
set_option maxRecDepth 100000 in
theorem kX8_isAway_b26 {p : Program} {l : Launch} {e : Env} {s : State} {m : MethodId} {args : Array Value} {below : List Frame} {meth : Method} {c : Code} {G : qG} {A : Nat → Prop} {Qf : State → Prop} {R : va_W} {a : Nat → Nat} {k : Int32 → qS → Prop} (hx : p.tables.exec = Jvm.exec) (hb : c.code = cX8_isAway) (hml : c.maxLocals = 2) (hown : s.vm.findClass RX8 = some m.cls) (hts : ∀ w ∈ wsX8_isAway, w.before args s = true) (hA : ∀ q : Nat, s.heap.size ≤ q → A q) (hKn : qKn G A s s.heap) (hret : ∀ (r : Int32) (q : qS) (H : Heap) (locs : List Loc) (ls : Array Slot) (pc : Nat), k r q → narrow .boolean (.int r) = .int r → va_P G.1 vwCl (wQ G a q ++ R) H → va_D A (wQ G a q ++ R) → va_S A s.heap H locs → decode cX8_isAway pc = .ok (.ireturn, 1) → W p l e rmX8_isAway s m args below meth c H locs 0 0 Qf (F0 m pc ls [.int r])) : ∀ (q : qS) (z0 : Int32) (H : Heap) (locs : List Loc) (ls : Array Slot), wX8_isAway_b26 k q z0 → va_P G.1 vwCl (wQ G a q ++ R) H → va_D A (wQ G a q ++ R) → va_S A s.heap H locs → lv_has ls 2 [] → W p l e rmX8_isAway s m args below meth c H locs 0 0 Qf (F0 m 26 ls [.int z0]) := by
  intro q z0 H locs ls h hP hD hS hl
  unfold wX8_isAway_b26 at h
  obtain ⟨hn1, h⟩ := h
  exact hret _ _ _ _ _ _ h hn1 hP hD hS dX8_isAway_26
set_option maxHeartbeats 4000000 in
set_option maxRecDepth 100000 in
theorem kX8_isAway_b25 {p : Program} {l : Launch} {e : Env} {s : State} {m : MethodId} {args : Array Value} {below : List Frame} {meth : Method} {c : Code} {G : qG} {A : Nat → Prop} {Qf : State → Prop} {R : va_W} {a : Nat → Nat} {k : Int32 → qS → Prop} (hx : p.tables.exec = Jvm.exec) (hb : c.code = cX8_isAway) (hml : c.maxLocals = 2) (hown : s.vm.findClass RX8 = some m.cls) (hts : ∀ w ∈ wsX8_isAway, w.before args s = true) (hA : ∀ q : Nat, s.heap.size ≤ q → A q) (hKn : qKn G A s s.heap) (hret : ∀ (r : Int32) (q : qS) (H : Heap) (locs : List Loc) (ls : Array Slot) (pc : Nat), k r q → narrow .boolean (.int r) = .int r → va_P G.1 vwCl (wQ G a q ++ R) H → va_D A (wQ G a q ++ R) → va_S A s.heap H locs → decode cX8_isAway pc = .ok (.ireturn, 1) → W p l e rmX8_isAway s m args below meth c H locs 0 0 Qf (F0 m pc ls [.int r])) : ∀ (q : qS) (H : Heap) (locs : List Loc) (ls : Array Slot), wX8_isAway_b25 k q → va_P G.1 vwCl (wQ G a q ++ R) H → va_D A (wQ G a q ++ R) → va_S A s.heap H locs → lv_has ls 2 [] → W p l e rmX8_isAway s m args below meth c H locs 0 0 Qf (F0 m 25 ls []) := by
  intro q H locs ls h hP hD hS hl
  unfold wX8_isAway_b25 at h
  refine lv_iconst (v := (0 : Int32)) hx hb dX8_isAway_25 (by decide) ?_
  exact kX8_isAway_b26 hx hb hml hown hts hA hKn hret q (0 : Int32) _ _ _ h hP hD hS (lv_sub hl [] rfl)
set_option maxHeartbeats 4000000 in
set_option maxRecDepth 100000 in
theorem mX8_isAway (l : Launch) (G : qG) (k : Int32 → qS → Prop) (R : va_W) (a : Nat → Nat) (q : qS) (sz : Nat) (p0 : Int32) : Met l yX8_isAway wsX8_isAway rmX8_isAway (qPc G [.ref (a 14), .int p0] (wQ G a q ++ R) sz (wX8_isAway k q p0)) (qQi G (wQ G a q ++ R) sz (fun (r : Int32) (u : qS) => k r u) (fun (u : qS) => wQ G a u ++ R)) 0 0 (va_A (wQ G a q ++ R) sz) := by
  refine Met.ofW (cc := cX8_isAway) (maxL := 2) (ret := (some .boolean)) (by decide) rfl ?_
  intro p e s m args below meth c s₁ B hml hv
  obtain ⟨rfl, hsz, hP, hD0, hKn0, h⟩ := hv
  have hx := B.exec
  have hb := B.bytes
  have hr := B.returns
  have hts := atoms_spec (ws := wsX8_isAway) B.pre
  have hown : s.vm.findClass RX8 = some m.cls := findClass_of_methodNamed B.named
  have hlocks := B.notSynchronized
  subst hsz
  have hD := hD0.self (sz := s.heap.size)
  generalize hAe : va_A (wQ G a q ++ R) s.heap.size = A at hD hKn0 ⊢
  have hA : ∀ q : Nat, s.heap.size ≤ q → A q := fun q h => by rw [← hAe]; exact Or.inr h
  have hKn : qKn G A s s.heap := hKn0
  have hS : va_S A s.heap s.heap [] := va_S.rf
  have hret : ∀ (r : Int32) (q' : qS) (H : Heap) (locs : List Loc) (ls : Array Slot) (pc : Nat), k r q' → narrow .boolean (.int r) = .int r → va_P G.1 vwCl (wQ G a q' ++ R) H → va_D A (wQ G a q' ++ R) → va_S A s.heap H locs → decode cX8_isAway pc = .ok (.ireturn, 1) → W p l e rmX8_isAway s m #[.ref (a 14), .int p0] below meth c H locs 0 0 (MQ below (qQi G (wQ G a q ++ R) s.heap.size (fun (r : Int32) (u : qS) => k r u) (fun (u : qS) => wQ G a u ++ R)) #[.ref (a 14), .int p0] s 0 0 A) (F0 m pc ls [.int r]) := fun r q' H locs ls pc hk hn hP hD hS hd => W.zret hx hb hr hn (fun t ht hW => q_ri (u := (q' : qS)) hAe hk hP hD hS ht) hS.2.2 hd
  have hl := lv_entry ([.ref (a 14), .int p0]) (n := 2) (Nat.le_of_ble_eq_true rfl)
  rw [lg_entry_eq]
  generalize (lg_sl ([.ref (a 14), .int p0]) ++ List.replicate (2 - (lg_sl ([.ref (a 14), .int p0])).length) Slot.unset).toArray = ls at hl ⊢
  have hl : lv_has ls 2 [(0, .ref (a 14)), (1, .int p0)] := hl
  unfold wX8_isAway at h
  show W p l e rmX8_isAway s m #[.ref (a 14), .int p0] below meth c s.heap [] 0 0 _ _
  refine lv_iload_n hx hb dX8_isAway_0 rfl (lv_at hl 1 rfl) ?_
  refine lv_iconst (v := (0 : Int32)) hx hb dX8_isAway_1 (by decide) ?_
  refine lv_bipush (v := (19 : Int32)) hx hb dX8_isAway_2 (by decide) ?_
  refine qc_ni (As := [.int p0, .int (0 : Int32), .int (19 : Int32)]) (rest := []) ⟨hx, hb, hml, hown, hts⟩ (mX9_within l G _ _ _ p0 (0 : Int32) (19 : Int32)) ⟨va_cnB 3 hts gX8_isAway_X9_within_n34 rfl rfl rfl (hKn.2.1 _ (List.mem_of_getElem? (i := 18) rfl)) (hts _ lX8_isAway_nX9) (by decide +kernel) ⟨Nat.le_of_ble_eq_true rfl, Nat.le_of_ble_eq_true rfl⟩, (hts _ lX8_isAway_sX9_within), trivial⟩ hP hD hS hA hKn h rfl hl.1 rfl (Nat.le_of_ble_eq_true rfl) dX8_isAway_4 ⟨Nat.zero_le _, Nat.zero_le _⟩ (fun r1 _ H locs h hP hD hS => ?_)
  have hP : va_P G.1 vwCl (wQ G a q ++ R) H := hP
  have hD : va_D A (wQ G a q ++ R) := hD
  refine lv_if_eq (tgt := 25) hx hb dX8_isAway_7 (by decide) (fun c1 => ?_) (fun c1 => ?_)
  · have h := h.1 c1
    exact kX8_isAway_b25 hx hb hml hown hts hA hKn hret q _ _ _ h hP hD hS (lv_sub hl [] rfl)
  · have h := h.2 c1
    refine lv_aload_n hx hb dX8_isAway_10 rfl (lv_at hl 0 rfl) ?_
    refine va_get (D := G.1) (ci := 8) (v := .ref (a 6)) (C := RX8) (T := TX8) (N := 4) hx hb hts iX8_isAway_X8 hown hKn.k hP 7 rfl rfl 0 (by decide) (hts _ lX8_isAway_f9) (fun _ h9 => h9) rfl dX8_isAway_11 ?_
    refine lv_iload_n hx hb dX8_isAway_14 rfl (lv_at hl 1 rfl) ?_
    obtain ⟨hin, h⟩ := h
    refine va_iald hx hb hKn.k hP 8 0 rfl rfl hin dX8_isAway_15 ?_
    refine lv_bipush (v := (-6 : Int32)) hx hb dX8_isAway_16 (by decide) ?_
    refine lv_icmp_eq (tgt := 25) hx hb dX8_isAway_18 (by decide) (fun c1 => ?_) (fun c1 => ?_)
    · have h := h.1 c1
      exact kX8_isAway_b25 hx hb hml hown hts hA hKn hret q _ _ _ h hP hD hS (lv_sub hl [] rfl)
    · have h := h.2 c1
      refine lv_iconst (v := (1 : Int32)) hx hb dX8_isAway_21 (by decide) ?_
      refine lv_goto (tgt := 26) hx hb dX8_isAway_22 (by decide) ?_
      exact kX8_isAway_b26 hx hb hml hown hts hA hKn hret q (1 : Int32) _ _ _ h hP hD hS (lv_sub hl [] rfl)
abbrev rmX8_send : Room := { frames := 1, cells := 0, slots := 0, locals := 22 }
theorem lX8_send_f15 : Cond.fieldLink RX8 15 "QuarryBlends$Trucks" "load" "[I" ∈ wsX8_send := by decide +kernel
theorem lX8_send_f18 : Cond.fieldLink RX8 18 "QuarryBlends$Trucks" "back" "[I" ∈ wsX8_send := by decide +kernel
theorem lX8_send_f21 : Cond.fieldLink RX8 21 "QuarryBlends$Trucks" "sent" "[I" ∈ wsX8_send := by decide +kernel
theorem lX8_send_f9 : Cond.fieldLink RX8 9 "QuarryBlends$Trucks" "from" "[I" ∈ wsX8_send := by decide +kernel
theorem lX8_send_nX9 : Cond.initialized RX9 ∈ wsX8_send := by decide +kernel
theorem lX8_send_sX9_within : Cond.static yX9_within ∈ wsX8_send := by decide +kernel
theorem iX8_send_X8 : ∀ w ∈ wsX80, w ∈ wsX8_send := by decide +kernel
set_option maxHeartbeats 4000000 in
set_option maxRecDepth 100000 in
theorem kX8_send_b42 {p : Program} {l : Launch} {e : Env} {s : State} {m : MethodId} {args : Array Value} {below : List Frame} {meth : Method} {c : Code} {G : qG} {A : Nat → Prop} {Qf : State → Prop} {R : va_W} {a : Nat → Nat} {k : qS → Prop} (hx : p.tables.exec = Jvm.exec) (hb : c.code = cX8_send) (hml : c.maxLocals = 5) (hown : s.vm.findClass RX8 = some m.cls) (hts : ∀ w ∈ wsX8_send, w.before args s = true) (hA : ∀ q : Nat, s.heap.size ≤ q → A q) (hKn : qKn G A s s.heap) (hret : ∀ (q : qS) (H : Heap) (locs : List Loc) (ls : Array Slot) (pc : Nat), k q → va_P G.1 vwCl (wQ G a q ++ R) H → va_D A (wQ G a q ++ R) → va_S A s.heap H locs → decode cX8_send pc = .ok (.return_, 1) → W p l e rmX8_send s m args below meth c H locs 0 0 Qf (F0 m pc ls [])) : ∀ (q : qS) (H : Heap) (locs : List Loc) (ls : Array Slot), wX8_send_b42 k q → va_P G.1 vwCl (wQ G a q ++ R) H → va_D A (wQ G a q ++ R) → va_S A s.heap H locs → lv_has ls 5 [] → W p l e rmX8_send s m args below meth c H locs 0 0 Qf (F0 m 42 ls []) := by
  intro q H locs ls h hP hD hS hl
  unfold wX8_send_b42 at h
  exact hret _ _ _ _ _ h hP hD hS dX8_send_42
set_option maxHeartbeats 4000000 in
set_option maxRecDepth 100000 in
theorem mX8_send (l : Launch) (G : qG) (k : qS → Prop) (R : va_W) (a : Nat → Nat) (q : qS) (sz : Nat) (p0 : Int32) (p1 : Int32) (p2 : Int32) (p3 : Int32) : Met l yX8_send wsX8_send rmX8_send (qPc G [.ref (a 14), .int p0, .int p1, .int p2, .int p3] (wQ G a q ++ R) sz (wX8_send k q p0 p1 p2 p3)) (qQv G (wQ G a q ++ R) sz (fun (u : qS) => k u) (fun (u : qS) => wQ G a u ++ R)) 0 0 (va_A (wQ G a q ++ R) sz) := by
  refine Met.ofW (cc := cX8_send) (maxL := 5) (ret := none) (by decide) rfl ?_
  intro p e s m args below meth c s₁ B hml hv
  obtain ⟨rfl, hsz, hP, hD0, hKn0, h⟩ := hv
  have hx := B.exec
  have hb := B.bytes
  have hr := B.returns
  have hts := atoms_spec (ws := wsX8_send) B.pre
  have hown : s.vm.findClass RX8 = some m.cls := findClass_of_methodNamed B.named
  have hlocks := B.notSynchronized
  subst hsz
  have hD := hD0.self (sz := s.heap.size)
  generalize hAe : va_A (wQ G a q ++ R) s.heap.size = A at hD hKn0 ⊢
  have hA : ∀ q : Nat, s.heap.size ≤ q → A q := fun q h => by rw [← hAe]; exact Or.inr h
  have hKn : qKn G A s s.heap := hKn0
  have hS : va_S A s.heap s.heap [] := va_S.rf
  have hret : ∀ (q' : qS) (H : Heap) (locs : List Loc) (ls : Array Slot) (pc : Nat), k q' → va_P G.1 vwCl (wQ G a q' ++ R) H → va_D A (wQ G a q' ++ R) → va_S A s.heap H locs → decode cX8_send pc = .ok (.return_, 1) → W p l e rmX8_send s m #[.ref (a 14), .int p0, .int p1, .int p2, .int p3] below meth c H locs 0 0 (MQ below (qQv G (wQ G a q ++ R) s.heap.size (fun (u : qS) => k u) (fun (u : qS) => wQ G a u ++ R)) #[.ref (a 14), .int p0, .int p1, .int p2, .int p3] s 0 0 A) (F0 m pc ls []) := fun q' H locs ls pc hk hP hD hS hd => W.vret hx hb hr (fun t ht hW => q_rv (u := (q' : qS)) hAe hk hP hD hS ht) hS.2.2 hd
  have hl := lv_entry ([.ref (a 14), .int p0, .int p1, .int p2, .int p3]) (n := 5) (Nat.le_of_ble_eq_true rfl)
  rw [lg_entry_eq]
  generalize (lg_sl ([.ref (a 14), .int p0, .int p1, .int p2, .int p3]) ++ List.replicate (5 - (lg_sl ([.ref (a 14), .int p0, .int p1, .int p2, .int p3])).length) Slot.unset).toArray = ls at hl ⊢
  have hl : lv_has ls 5 [(0, .ref (a 14)), (1, .int p0), (2, .int p1), (3, .int p2), (4, .int p3)] := hl
  unfold wX8_send at h
  show W p l e rmX8_send s m #[.ref (a 14), .int p0, .int p1, .int p2, .int p3] below meth c s.heap [] 0 0 _ _
  refine lv_iload_n hx hb dX8_send_0 rfl (lv_at hl 1 rfl) ?_
  refine lv_iconst (v := (0 : Int32)) hx hb dX8_send_1 (by decide) ?_
  refine lv_bipush (v := (19 : Int32)) hx hb dX8_send_2 (by decide) ?_
  refine qc_ni (As := [.int p0, .int (0 : Int32), .int (19 : Int32)]) (rest := []) ⟨hx, hb, hml, hown, hts⟩ (mX9_within l G _ _ _ p0 (0 : Int32) (19 : Int32)) ⟨va_cnB 3 hts gX8_send_X9_within_n34 rfl rfl rfl (hKn.2.1 _ (List.mem_of_getElem? (i := 18) rfl)) (hts _ lX8_send_nX9) (by decide +kernel) ⟨Nat.le_of_ble_eq_true rfl, Nat.le_of_ble_eq_true rfl⟩, (hts _ lX8_send_sX9_within), trivial⟩ hP hD hS hA hKn h rfl hl.1 rfl (Nat.le_of_ble_eq_true rfl) dX8_send_4 ⟨Nat.zero_le _, Nat.zero_le _⟩ (fun r1 _ H locs h hP hD hS => ?_)
  have hP : va_P G.1 vwCl (wQ G a q ++ R) H := hP
  have hD : va_D A (wQ G a q ++ R) := hD
  refine lv_if_eq (tgt := 42) hx hb dX8_send_7 (by decide) (fun c1 => ?_) (fun c1 => ?_)
  · have h := h.1 c1
    exact kX8_send_b42 hx hb hml hown hts hA hKn hret q _ _ _ h hP hD hS (lv_sub hl [] rfl)
  · have h := h.2 c1
    refine lv_aload_n hx hb dX8_send_10 rfl (lv_at hl 0 rfl) ?_
    refine va_get (D := G.1) (ci := 8) (v := .ref (a 6)) (C := RX8) (T := TX8) (N := 4) hx hb hts iX8_send_X8 hown hKn.k hP 7 rfl rfl 0 (by decide) (hts _ lX8_send_f9) (fun _ h9 => h9) rfl dX8_send_11 ?_
    refine lv_iload_n hx hb dX8_send_14 rfl (lv_at hl 1 rfl) ?_
    refine lv_iload_n hx hb dX8_send_15 rfl (lv_at hl 2 rfl) ?_
    obtain ⟨hin, h⟩ := h
    refine va_iast hx hb hKn.k hP hD hS 8 0 rfl rfl hin dX8_send_16 (fun H locs hP hD hS => ?_)
    obtain ⟨q2, eq2⟩ : ∃ z : qS, z = up2 q 6 (Int32.toNatClampNeg p0) p1 := ⟨_, rfl⟩
    have hP : va_P G.1 vwCl (wQ G a q2 ++ R) H := by rw [eq2]; exact hP
    have hD : va_D A (wQ G a q2 ++ R) := by rw [eq2]; exact hD
    have h := h q2 eq2
    refine lv_aload_n hx hb dX8_send_17 rfl (lv_at hl 0 rfl) ?_
    refine va_get (D := G.1) (ci := 8) (v := .ref (a 7)) (C := RX8) (T := TX8) (N := 4) hx hb hts iX8_send_X8 hown hKn.k hP 7 rfl rfl 1 (by decide) (hts _ lX8_send_f15) (fun _ h9 => h9) rfl dX8_send_18 ?_
    refine lv_iload_n hx hb dX8_send_21 rfl (lv_at hl 1 rfl) ?_
    refine lv_iload_n hx hb dX8_send_22 rfl (lv_at hl 3 rfl) ?_
    obtain ⟨hin, h⟩ := h
    refine va_iast hx hb hKn.k hP hD hS 9 0 rfl rfl hin dX8_send_23 (fun H locs hP hD hS => ?_)
    obtain ⟨q3, eq3⟩ : ∃ z : qS, z = up2 q2 7 (Int32.toNatClampNeg p0) p2 := ⟨_, rfl⟩
    have hP : va_P G.1 vwCl (wQ G a q3 ++ R) H := by rw [eq3]; exact hP
    have hD : va_D A (wQ G a q3 ++ R) := by rw [eq3]; exact hD
    have h := h q3 eq3
    refine lv_aload_n hx hb dX8_send_24 rfl (lv_at hl 0 rfl) ?_
    refine va_get (D := G.1) (ci := 8) (v := .ref (a 8)) (C := RX8) (T := TX8) (N := 4) hx hb hts iX8_send_X8 hown hKn.k hP 7 rfl rfl 2 (by decide) (hts _ lX8_send_f18) (fun _ h9 => h9) rfl dX8_send_25 ?_
    refine lv_iload_n hx hb dX8_send_28 rfl (lv_at hl 1 rfl) ?_
    refine lv_iload hx hb dX8_send_29 (lv_at hl 4 rfl) ?_
    obtain ⟨hin, h⟩ := h
    refine va_iast hx hb hKn.k hP hD hS 10 0 rfl rfl hin dX8_send_31 (fun H locs hP hD hS => ?_)
    obtain ⟨q4, eq4⟩ : ∃ z : qS, z = up2 q3 8 (Int32.toNatClampNeg p0) p3 := ⟨_, rfl⟩
    have hP : va_P G.1 vwCl (wQ G a q4 ++ R) H := by rw [eq4]; exact hP
    have hD : va_D A (wQ G a q4 ++ R) := by rw [eq4]; exact hD
    have h := h q4 eq4
    refine lv_aload_n hx hb dX8_send_32 rfl (lv_at hl 0 rfl) ?_
    refine va_get (D := G.1) (ci := 8) (v := .ref (a 9)) (C := RX8) (T := TX8) (N := 4) hx hb hts iX8_send_X8 hown hKn.k hP 7 rfl rfl 3 (by decide) (hts _ lX8_send_f21) (fun _ h9 => h9) rfl dX8_send_33 ?_
    refine lv_iload_n hx hb dX8_send_36 rfl (lv_at hl 1 rfl) ?_
    refine lv_dup2_11 hx hb dX8_send_37 rfl rfl ?_
    obtain ⟨hin, h⟩ := h
    refine va_iald hx hb hKn.k hP 11 0 rfl rfl hin dX8_send_38 ?_
    refine lv_iconst (v := (1 : Int32)) hx hb dX8_send_39 (by decide) ?_
    refine lv_iadd hx hb dX8_send_40 ?_
    refine lv_topi (fun y5 ey5 => ?_)
    have h := h y5 ey5
    obtain ⟨hin, h⟩ := h
    refine va_iast hx hb hKn.k hP hD hS 11 0 rfl rfl hin dX8_send_41 (fun H locs hP hD hS => ?_)
    obtain ⟨q6, eq6⟩ : ∃ z : qS, z = up2 q4 9 (Int32.toNatClampNeg p0) y5 := ⟨_, rfl⟩
    have hP : va_P G.1 vwCl (wQ G a q6 ++ R) H := by rw [eq6]; exact hP
    have hD : va_D A (wQ G a q6 ++ R) := by rw [eq6]; exact hD
    have h := h q6 eq6
    exact kX8_send_b42 hx hb hml hown hts hA hKn hret q6 _ _ _ h hP hD hS (lv_sub hl [] rfl)
abbrev rmX6_sendTrucks : Room := { frames := 2, cells := 0, slots := 0, locals := 46 }
theorem lX6_sendTrucks_cmin : Cond.code Lib.Math.min.name Lib.Math.min.code 2 (some .int) ∈ wsX6_sendTrucks := by decide +kernel
theorem lX6_sendTrucks_f153 : Cond.fieldLink RX6 153 "QuarryBlends$Faces" "way" "[I" ∈ wsX6_sendTrucks := by decide +kernel
theorem lX6_sendTrucks_f18 : Cond.fieldLink RX6 18 "QuarryBlends$Quarry" "settings" "[I" ∈ wsX6_sendTrucks := by decide +kernel
theorem lX6_sendTrucks_f26 : Cond.fieldLink RX6 26 "QuarryBlends$Quarry" "faces" "LQuarryBlends$Faces;" ∈ wsX6_sendTrucks := by decide +kernel
theorem lX6_sendTrucks_f33 : Cond.fieldLink RX6 33 "QuarryBlends$Quarry" "trucks" "LQuarryBlends$Trucks;" ∈ wsX6_sendTrucks := by decide +kernel
theorem lX6_sendTrucks_f75 : Cond.fieldLink RX6 75 "QuarryBlends$Quarry" "hours" "I" ∈ wsX6_sendTrucks := by decide +kernel
theorem lX6_sendTrucks_f85 : Cond.fieldLink RX6 85 "QuarryBlends$Quarry" "costs" "I" ∈ wsX6_sendTrucks := by decide +kernel
theorem lX6_sendTrucks_im : Cond.initialized "java/lang/Math" ∈ wsX6_sendTrucks := by decide +kernel
theorem lX6_sendTrucks_m141 : Cond.methodLink RX6 141 Lib.Math.min.name ∈ wsX6_sendTrucks := by decide +kernel
theorem lX6_sendTrucks_smin : Cond.static Lib.Math.min.name ∈ wsX6_sendTrucks := by decide +kernel
theorem iX6_sendTrucks_X3 : ∀ w ∈ wsX30, w ∈ wsX6_sendTrucks := by decide +kernel
theorem iX6_sendTrucks_X6 : ∀ w ∈ wsX60, w ∈ wsX6_sendTrucks := by decide +kernel
set_option maxHeartbeats 4000000 in
set_option maxRecDepth 100000 in
theorem kX6_sendTrucks_b109 {p : Program} {l : Launch} {e : Env} {s : State} {m : MethodId} {args : Array Value} {below : List Frame} {meth : Method} {c : Code} {G : qG} {A : Nat → Prop} {Qf : State → Prop} {R : va_W} {a : Nat → Nat} {k : qS → Prop} (hx : p.tables.exec = Jvm.exec) (hb : c.code = cX6_sendTrucks) (hml : c.maxLocals = 5) (hown : s.vm.findClass RX6 = some m.cls) (hts : ∀ w ∈ wsX6_sendTrucks, w.before args s = true) (hA : ∀ q : Nat, s.heap.size ≤ q → A q) (hKn : qKn G A s s.heap) (hret : ∀ (q : qS) (H : Heap) (locs : List Loc) (ls : Array Slot) (pc : Nat), k q → va_P G.1 vwCl (wQ G a q ++ R) H → va_D A (wQ G a q ++ R) → va_S A s.heap H locs → decode cX6_sendTrucks pc = .ok (.return_, 1) → W p l e rmX6_sendTrucks s m args below meth c H locs 0 0 Qf (F0 m pc ls [])) {kb14 : qS → Int32 → Int32 → Prop} (hkb14 : ∀ (q : qS) (x1 : Int32) (x2 : Int32) (H : Heap) (locs : List Loc) (ls : Array Slot), kb14 q x1 x2 → va_P G.1 vwCl (wQ G a q ++ R) H → va_D A (wQ G a q ++ R) → va_S A s.heap H locs → lv_has ls 5 [(0, .ref (a 0)), (1, .int x1), (2, .int x2)] → W p l e rmX6_sendTrucks s m args below meth c H locs 0 0 Qf (F0 m 14 ls [])) : ∀ (q : qS) (x1 : Int32) (x2 : Int32) (H : Heap) (locs : List Loc) (ls : Array Slot), wX6_sendTrucks_b109 k kb14 q x1 x2 → va_P G.1 vwCl (wQ G a q ++ R) H → va_D A (wQ G a q ++ R) → va_S A s.heap H locs → lv_has ls 5 [(0, .ref (a 0)), (1, .int x1), (2, .int x2)] → W p l e rmX6_sendTrucks s m args below meth c H locs 0 0 Qf (F0 m 109 ls []) := by
  intro q x1 x2 H locs ls h hP hD hS hl
  unfold wX6_sendTrucks_b109 at h
  obtain ⟨y1, ey1⟩ : ∃ z : Int32, z = x2 + (1 : Int32) := ⟨_, rfl⟩
  have h := h y1 ey1
  refine lv_iinc (v := y1) (lv' := [(2, .int y1), (0, .ref (a 0)), (1, .int x1)]) hx hb dX6_sendTrucks_109 hl (k := 2) rfl (by rw [ey1]; rfl) (by decide) rfl (fun ls hl => ?_)
  refine lv_goto (tgt := 14) hx hb dX6_sendTrucks_112 (by decide) ?_
  exact hkb14 q x1 y1 _ _ _ h hP hD hS (lv_sub hl [1, 2, 0] rfl)
set_option maxHeartbeats 4000000 in
set_option maxRecDepth 100000 in
theorem kX6_sendTrucks_b14 {p : Program} {l : Launch} {e : Env} {s : State} {m : MethodId} {args : Array Value} {below : List Frame} {meth : Method} {c : Code} {G : qG} {A : Nat → Prop} {Qf : State → Prop} {R : va_W} {a : Nat → Nat} {k : qS → Prop} (hx : p.tables.exec = Jvm.exec) (hb : c.code = cX6_sendTrucks) (hml : c.maxLocals = 5) (hown : s.vm.findClass RX6 = some m.cls) (hts : ∀ w ∈ wsX6_sendTrucks, w.before args s = true) (hA : ∀ q : Nat, s.heap.size ≤ q → A q) (hKn : qKn G A s s.heap) (hret : ∀ (q : qS) (H : Heap) (locs : List Loc) (ls : Array Slot) (pc : Nat), k q → va_P G.1 vwCl (wQ G a q ++ R) H → va_D A (wQ G a q ++ R) → va_S A s.heap H locs → decode cX6_sendTrucks pc = .ok (.return_, 1) → W p l e rmX6_sendTrucks s m args below meth c H locs 0 0 Qf (F0 m pc ls [])) : ∀ (n : Nat) (q : qS) (x1 : Int32) (x2 : Int32) (H : Heap) (locs : List Loc) (ls : Array Slot), wX6_sendTrucks_b14 k n q x1 x2 → va_P G.1 vwCl (wQ G a q ++ R) H → va_D A (wQ G a q ++ R) → va_S A s.heap H locs → lv_has ls 5 [(0, .ref (a 0)), (1, .int x1), (2, .int x2)] → W p l e rmX6_sendTrucks s m args below meth c H locs 0 0 Qf (F0 m 14 ls []) := by
  intro n
  induction n with
  | zero => intros; rename_i h _ _ _ _; exact h.elim
  | succ n ih =>
    intro q x1 x2 H locs ls h hP hD hS hl
    unfold wX6_sendTrucks_b14 at h
    refine lv_iload_n hx hb dX6_sendTrucks_14 rfl (lv_at hl 2 rfl) ?_
    refine lv_iload_n hx hb dX6_sendTrucks_15 rfl (lv_at hl 1 rfl) ?_
    refine lv_icmp_ge (tgt := 115) hx hb dX6_sendTrucks_16 (by decide) (fun c1 => ?_) (fun c1 => ?_)
    · have h := h.1 c1
      exact hret _ _ _ _ _ h hP hD hS dX6_sendTrucks_115
    · have h := h.2 c1
      refine lv_aload_n hx hb dX6_sendTrucks_19 rfl (lv_at hl 0 rfl) ?_
      refine va_get (D := G.1) (ci := 6) (v := .ref (a 14)) (C := RX6) (T := TX6) (N := 10) hx hb hts iX6_sendTrucks_X6 hown hKn.k hP 0 rfl rfl 2 (by decide) (hts _ lX6_sendTrucks_f33) (fun _ h9 => h9) rfl dX6_sendTrucks_20 ?_
      refine lv_iload_n hx hb dX6_sendTrucks_23 rfl (lv_at hl 2 rfl) ?_
      refine qc_vi (As := [.int x2]) (rest := []) ⟨hx, hb, hml, hown, hts⟩ (mX8_isAway l G _ _ a q _ x2) (cwV 1 hts gX6_sendTrucks_X8_isAway rfl rfl rfl (by decide +kernel) ⟨Nat.le_of_ble_eq_true rfl, Nat.le_of_ble_eq_true rfl⟩) hP hD hS hA hKn 7 8 rfl rfl rfl h rfl hl.1 rfl (Nat.le_of_ble_eq_true rfl) dX6_sendTrucks_24 ⟨Nat.zero_le _, Nat.zero_le _⟩ (fun r2 q3 H locs h hP hD hS => ?_)
      have hP : va_P G.1 vwCl (wQ G a q3 ++ R) H := hP
      have hD : va_D A (wQ G a q3 ++ R) := hD
      refine lv_if_ne (tgt := 109) hx hb dX6_sendTrucks_27 (by decide) (fun c1 => ?_) (fun c1 => ?_)
      · have h := h.1 c1
        exact kX6_sendTrucks_b109 hx hb hml hown hts hA hKn hret ih q3 x1 x2 _ _ _ h hP hD hS (lv_sub hl [0, 1, 2] rfl)
      · have h := h.2 c1
        refine lv_aload_n hx hb dX6_sendTrucks_30 rfl (lv_at hl 0 rfl) ?_
        refine va_get (D := G.1) (ci := 6) (v := .ref (a 13)) (C := RX6) (T := TX6) (N := 10) hx hb hts iX6_sendTrucks_X6 hown hKn.k hP 0 rfl rfl 1 (by decide) (hts _ lX6_sendTrucks_f26) (fun _ h9 => h9) rfl dX6_sendTrucks_31 ?_
        refine qc_vi (As := []) (rest := []) ⟨hx, hb, hml, hown, hts⟩ (mX3_fullest l G _ _ a q3 _ ) (cwV 0 hts gX6_sendTrucks_X3_fullest rfl rfl rfl (by decide +kernel) ⟨Nat.le_of_ble_eq_true rfl, Nat.le_of_ble_eq_true rfl⟩) hP hD hS hA hKn 2 3 rfl rfl rfl h rfl hl.1 rfl (Nat.le_of_ble_eq_true rfl) dX6_sendTrucks_34 ⟨Nat.zero_le _, Nat.zero_le _⟩ (fun r4 q5 H locs h hP hD hS => ?_)
        have hP : va_P G.1 vwCl (wQ G a q5 ++ R) H := hP
        have hD : va_D A (wQ G a q5 ++ R) := hD
        refine lv_istore_n (lv' := [(3, .int r4), (0, .ref (a 0)), (1, .int x1), (2, .int x2)]) hx hb dX6_sendTrucks_37 rfl hl (by decide) rfl (fun ls hl => ?_)
        refine lv_aload_n hx hb dX6_sendTrucks_38 rfl (lv_at hl 1 rfl) ?_
        refine va_get (D := G.1) (ci := 6) (v := .ref (a 13)) (C := RX6) (T := TX6) (N := 10) hx hb hts iX6_sendTrucks_X6 hown hKn.k hP 0 rfl rfl 1 (by decide) (hts _ lX6_sendTrucks_f26) (fun _ h9 => h9) rfl dX6_sendTrucks_39 ?_
        refine lv_iload_n hx hb dX6_sendTrucks_42 rfl (lv_at hl 0 rfl) ?_
        refine qc_vi (As := [.int r4]) (rest := []) ⟨hx, hb, hml, hown, hts⟩ (mX3_has l G _ _ a q5 _ r4) (cwV 1 hts gX6_sendTrucks_X3_has rfl rfl rfl (by decide +kernel) ⟨Nat.le_of_ble_eq_true rfl, Nat.le_of_ble_eq_true rfl⟩) hP hD hS hA hKn 2 3 rfl rfl rfl h rfl hl.1 rfl (Nat.le_of_ble_eq_true rfl) dX6_sendTrucks_43 ⟨Nat.zero_le _, Nat.zero_le _⟩ (fun r6 q7 H locs h hP hD hS => ?_)
        have hP : va_P G.1 vwCl (wQ G a q7 ++ R) H := hP
        have hD : va_D A (wQ G a q7 ++ R) := hD
        refine lv_if_ne (tgt := 50) hx hb dX6_sendTrucks_46 (by decide) (fun c1 => ?_) (fun c1 => ?_)
        · have h := h.1 c1
          refine lv_aload_n hx hb dX6_sendTrucks_50 rfl (lv_at hl 1 rfl) ?_
          refine va_get (D := G.1) (ci := 6) (v := .ref (a 13)) (C := RX6) (T := TX6) (N := 10) hx hb hts iX6_sendTrucks_X6 hown hKn.k hP 0 rfl rfl 1 (by decide) (hts _ lX6_sendTrucks_f26) (fun _ h9 => h9) rfl dX6_sendTrucks_51 ?_
          refine va_get (D := G.1) (ci := 3) (v := .ref (a 5)) (C := RX3) (T := TX3) (N := 5) hx hb hts iX6_sendTrucks_X3 hown hKn.k hP 2 rfl rfl 3 (by decide) (hts _ lX6_sendTrucks_f153) (fun _ h9 => h9) rfl dX6_sendTrucks_54 ?_
          refine lv_iload_n hx hb dX6_sendTrucks_57 rfl (lv_at hl 0 rfl) ?_
          obtain ⟨hin, h⟩ := h
          refine va_iald hx hb hKn.k hP 6 0 rfl rfl hin dX6_sendTrucks_58 ?_
          refine lv_topi (fun y8 ey8 => ?_)
          have h := h y8 ey8
          refine lv_istore (lv' := [(4, .int y8), (3, .int r4), (0, .ref (a 0)), (1, .int x1), (2, .int x2)]) hx hb dX6_sendTrucks_59 hl (by decide) rfl (fun ls hl => ?_)
          refine lv_aload_n hx hb dX6_sendTrucks_61 rfl (lv_at hl 2 rfl) ?_
          refine va_get (D := G.1) (ci := 6) (v := .ref (a 14)) (C := RX6) (T := TX6) (N := 10) hx hb hts iX6_sendTrucks_X6 hown hKn.k hP 0 rfl rfl 2 (by decide) (hts _ lX6_sendTrucks_f33) (fun _ h9 => h9) rfl dX6_sendTrucks_62 ?_
          refine lv_iload_n hx hb dX6_sendTrucks_65 rfl (lv_at hl 4 rfl) ?_
          refine lv_iload_n hx hb dX6_sendTrucks_66 rfl (lv_at hl 1 rfl) ?_
          refine lv_aload_n hx hb dX6_sendTrucks_67 rfl (lv_at hl 2 rfl) ?_
          refine va_get (D := G.1) (ci := 6) (v := .ref (a 13)) (C := RX6) (T := TX6) (N := 10) hx hb hts iX6_sendTrucks_X6 hown hKn.k hP 0 rfl rfl 1 (by decide) (hts _ lX6_sendTrucks_f26) (fun _ h9 => h9) rfl dX6_sendTrucks_68 ?_
          refine lv_iload_n hx hb dX6_sendTrucks_71 rfl (lv_at hl 1 rfl) ?_
          refine lv_aload_n hx hb dX6_sendTrucks_72 rfl (lv_at hl 2 rfl) ?_
          refine va_get (D := G.1) (ci := 6) (v := .ref (a 1)) (C := RX6) (T := TX6) (N := 10) hx hb hts iX6_sendTrucks_X6 hown hKn.k hP 0 rfl rfl 0 (by decide) (hts _ lX6_sendTrucks_f18) (fun _ h9 => h9) rfl dX6_sendTrucks_73 ?_
          refine lv_iconst (v := (1 : Int32)) hx hb dX6_sendTrucks_76 (by decide) ?_
          refine va_iald hx hb hKn.k hP 1 0 rfl rfl (by unfold vp_in; decide) dX6_sendTrucks_77 ?_
          refine qc_vi (As := [.int r4, .int (q7 1 1)]) (rest := [.int r4, .int x2, .ref (a 14)]) ⟨hx, hb, hml, hown, hts⟩ (mX3_take l G _ _ a q7 _ r4 (q7 1 1)) (cwV 2 hts gX6_sendTrucks_X3_take rfl rfl rfl (by decide +kernel) ⟨Nat.le_of_ble_eq_true rfl, Nat.le_of_ble_eq_true rfl⟩) hP hD hS hA hKn 2 3 rfl rfl rfl h rfl hl.1 rfl (Nat.le_of_ble_eq_true rfl) dX6_sendTrucks_78 ⟨Nat.zero_le _, Nat.zero_le _⟩ (fun r9 q10 H locs h hP hD hS => ?_)
          have hP : va_P G.1 vwCl (wQ G a q10 ++ R) H := hP
          have hD : va_D A (wQ G a q10 ++ R) := hD
          refine lv_aload_n hx hb dX6_sendTrucks_81 rfl (lv_at hl 2 rfl) ?_
          refine va_get (D := G.1) (ci := 6) (v := .int (q10 0 0)) (C := RX6) (T := TX6) (N := 10) hx hb hts iX6_sendTrucks_X6 hown hKn.k hP 0 rfl rfl 6 (by decide) (hts _ lX6_sendTrucks_f75) (fun _ h9 => h9) rfl dX6_sendTrucks_82 ?_
          refine lv_iload hx hb dX6_sendTrucks_85 (lv_at hl 0 rfl) ?_
          refine lv_iadd hx hb dX6_sendTrucks_87 ?_
          refine qc_vv (As := [.int x2, .int r4, .int r9, .int ((q10 0 0) + y8)]) (rest := []) ⟨hx, hb, hml, hown, hts⟩ (mX8_send l G _ _ a q10 _ x2 r4 r9 ((q10 0 0) + y8)) (cwV 4 hts gX6_sendTrucks_X8_send rfl rfl rfl (by decide +kernel) ⟨Nat.le_of_ble_eq_true rfl, Nat.le_of_ble_eq_true rfl⟩) hP hD hS hA hKn 7 8 rfl rfl rfl h rfl hl.1 rfl (Nat.le_of_ble_eq_true rfl) dX6_sendTrucks_88 ⟨Nat.zero_le _, Nat.zero_le _⟩ (fun q12 H locs h hP hD hS => ?_)
          have hP : va_P G.1 vwCl (wQ G a q12 ++ R) H := hP
          have hD : va_D A (wQ G a q12 ++ R) := hD
          refine lv_aload_n hx hb dX6_sendTrucks_91 rfl (lv_at hl 2 rfl) ?_
          refine lv_dup hx hb dX6_sendTrucks_92 rfl ?_
          refine va_get (D := G.1) (ci := 6) (v := .int (q12 0 3)) (C := RX6) (T := TX6) (N := 10) hx hb hts iX6_sendTrucks_X6 hown hKn.k hP 0 rfl rfl 9 (by decide) (hts _ lX6_sendTrucks_f85) (fun _ h9 => h9) rfl dX6_sendTrucks_93 ?_
          refine lv_aload_n hx hb dX6_sendTrucks_96 rfl (lv_at hl 2 rfl) ?_
          refine va_get (D := G.1) (ci := 6) (v := .ref (a 1)) (C := RX6) (T := TX6) (N := 10) hx hb hts iX6_sendTrucks_X6 hown hKn.k hP 0 rfl rfl 0 (by decide) (hts _ lX6_sendTrucks_f18) (fun _ h9 => h9) rfl dX6_sendTrucks_97 ?_
          refine lv_iconst (v := (5 : Int32)) hx hb dX6_sendTrucks_100 (by decide) ?_
          refine va_iald hx hb hKn.k hP 1 0 rfl rfl (by unfold vp_in; decide) dX6_sendTrucks_101 ?_
          refine lv_iload hx hb dX6_sendTrucks_102 (lv_at hl 0 rfl) ?_
          refine lv_imul hx hb dX6_sendTrucks_104 ?_
          refine lv_iadd hx hb dX6_sendTrucks_105 ?_
          refine lv_topi (fun y13 ey13 => ?_)
          have h := h y13 ey13
          refine va_put (D := G.1) (ci := 6) (v := .int y13) (ty := .int) (C := RX6) (T := TX6) (N := 10) hx hb hts iX6_sendTrucks_X6 tyX6 tyX6_ok nmX6 hown hKn.k hP hD hS 0 rfl rfl 9 (by decide) (hts _ lX6_sendTrucks_f85) (fun _ h9 => h9) rfl (by decide +kernel) rfl rfl (Nat.le_of_ble_eq_true rfl) dX6_sendTrucks_106 (fun H locs hP hD hS => ?_)
          obtain ⟨q14, eq14⟩ : ∃ z : qS, z = up2 q12 0 3 y13 := ⟨_, rfl⟩
          have hP : va_P G.1 vwCl (wQ G a q14 ++ R) H := by rw [eq14]; exact hP
          have hD : va_D A (wQ G a q14 ++ R) := by rw [eq14]; exact hD
          have h := h q14 eq14
          exact kX6_sendTrucks_b109 hx hb hml hown hts hA hKn hret ih q14 x1 x2 _ _ _ h hP hD hS (lv_sub hl [2, 3, 4] rfl)
        · have h := h.2 c1
          exact hret _ _ _ _ _ h hP hD hS dX6_sendTrucks_49
set_option maxHeartbeats 4000000 in
set_option maxRecDepth 100000 in
theorem mX6_sendTrucks (l : Launch) (G : qG) (k : qS → Prop) (R : va_W) (a : Nat → Nat) (q : qS) (sz : Nat) : Met l yX6_sendTrucks wsX6_sendTrucks rmX6_sendTrucks (qPc G [.ref (a 0)] (wQ G a q ++ R) sz (wX6_sendTrucks k q)) (qQv G (wQ G a q ++ R) sz (fun (u : qS) => k u) (fun (u : qS) => wQ G a u ++ R)) 0 0 (va_A (wQ G a q ++ R) sz) := by
  refine Met.ofW (cc := cX6_sendTrucks) (maxL := 5) (ret := none) (by decide) rfl ?_
  intro p e s m args below meth c s₁ B hml hv
  obtain ⟨rfl, hsz, hP, hD0, hKn0, h⟩ := hv
  have hx := B.exec
  have hb := B.bytes
  have hr := B.returns
  have hts := atoms_spec (ws := wsX6_sendTrucks) B.pre
  have hown : s.vm.findClass RX6 = some m.cls := findClass_of_methodNamed B.named
  have hlocks := B.notSynchronized
  subst hsz
  have hD := hD0.self (sz := s.heap.size)
  generalize hAe : va_A (wQ G a q ++ R) s.heap.size = A at hD hKn0 ⊢
  have hA : ∀ q : Nat, s.heap.size ≤ q → A q := fun q h => by rw [← hAe]; exact Or.inr h
  have hKn : qKn G A s s.heap := hKn0
  have hS : va_S A s.heap s.heap [] := va_S.rf
  have hret : ∀ (q' : qS) (H : Heap) (locs : List Loc) (ls : Array Slot) (pc : Nat), k q' → va_P G.1 vwCl (wQ G a q' ++ R) H → va_D A (wQ G a q' ++ R) → va_S A s.heap H locs → decode cX6_sendTrucks pc = .ok (.return_, 1) → W p l e rmX6_sendTrucks s m #[.ref (a 0)] below meth c H locs 0 0 (MQ below (qQv G (wQ G a q ++ R) s.heap.size (fun (u : qS) => k u) (fun (u : qS) => wQ G a u ++ R)) #[.ref (a 0)] s 0 0 A) (F0 m pc ls []) := fun q' H locs ls pc hk hP hD hS hd => W.vret hx hb hr (fun t ht hW => q_rv (u := (q' : qS)) hAe hk hP hD hS ht) hS.2.2 hd
  have hl := lv_entry ([.ref (a 0)]) (n := 5) (Nat.le_of_ble_eq_true rfl)
  rw [lg_entry_eq]
  generalize (lg_sl ([.ref (a 0)]) ++ List.replicate (5 - (lg_sl ([.ref (a 0)])).length) Slot.unset).toArray = ls at hl ⊢
  have hl : lv_has ls 5 [(0, .ref (a 0))] := hl
  unfold wX6_sendTrucks at h
  show W p l e rmX6_sendTrucks s m #[.ref (a 0)] below meth c s.heap [] 0 0 _ _
  refine lv_aload_n hx hb dX6_sendTrucks_0 rfl (lv_at hl 0 rfl) ?_
  refine va_get (D := G.1) (ci := 6) (v := .ref (a 1)) (C := RX6) (T := TX6) (N := 10) hx hb hts iX6_sendTrucks_X6 hown hKn.k hP 0 rfl rfl 0 (by decide) (hts _ lX6_sendTrucks_f18) (fun _ h9 => h9) rfl dX6_sendTrucks_1 ?_
  refine lv_iconst (v := (0 : Int32)) hx hb dX6_sendTrucks_4 (by decide) ?_
  refine va_iald hx hb hKn.k hP 1 0 rfl rfl (by unfold vp_in; decide) dX6_sendTrucks_5 ?_
  refine lv_bipush (v := (20 : Int32)) hx hb dX6_sendTrucks_6 (by decide) ?_
  refine va_mmin hx hb (hml.trans hl.1.symm) hown (hts _ lX6_sendTrucks_m141) (hts _ lX6_sendTrucks_smin) (hts _ lX6_sendTrucks_im) (hts _ lX6_sendTrucks_cmin) (Nat.le_of_ble_eq_true rfl) (Nat.le_of_ble_eq_true rfl) (Nat.zero_le _) (Nat.zero_le _) dX6_sendTrucks_8 ?_
  refine lv_topi (fun y15 ey15 => ?_)
  have h := h y15 ey15
  refine lv_istore_n (lv' := [(1, .int y15), (0, .ref (a 0))]) hx hb dX6_sendTrucks_11 rfl hl (by decide) rfl (fun ls hl => ?_)
  refine lv_iconst (v := (0 : Int32)) hx hb dX6_sendTrucks_12 (by decide) ?_
  refine lv_istore_n (lv' := [(2, .int (0 : Int32)), (1, .int y15), (0, .ref (a 0))]) hx hb dX6_sendTrucks_13 rfl hl (by decide) rfl (fun ls hl => ?_)
  obtain ⟨n16, h⟩ := h
  exact kX6_sendTrucks_b14 hx hb hml hown hts hA hKn hret n16 q y15 (0 : Int32) _ _ _ h hP hD hS (lv_sub hl [2, 1, 0] rfl)
abbrev rmX6_deliver : Room := { frames := 3, cells := 0, slots := 0, locals := 67 }
theorem lX6_deliver_f106 : Cond.fieldLink RX6 106 "QuarryBlends$Contracts" "amount" "I" ∈ wsX6_deliver := by decide +kernel
theorem lX6_deliver_f163 : Cond.fieldLink RX6 163 "QuarryBlends$Crusher" "bins" "[I" ∈ wsX6_deliver := by decide +kernel
theorem lX6_deliver_f170 : Cond.fieldLink RX6 170 "QuarryBlends$Blend" "reason" "I" ∈ wsX6_deliver := by decide +kernel
theorem lX6_deliver_f173 : Cond.fieldLink RX6 173 "QuarryBlends$Blend" "tonnes" "I" ∈ wsX6_deliver := by decide +kernel
theorem lX6_deliver_f40 : Cond.fieldLink RX6 40 "QuarryBlends$Quarry" "crusher" "LQuarryBlends$Crusher;" ∈ wsX6_deliver := by decide +kernel
theorem lX6_deliver_f47 : Cond.fieldLink RX6 47 "QuarryBlends$Quarry" "contracts" "LQuarryBlends$Contracts;" ∈ wsX6_deliver := by decide +kernel
theorem lX6_deliver_f54 : Cond.fieldLink RX6 54 "QuarryBlends$Quarry" "blend" "LQuarryBlends$Blend;" ∈ wsX6_deliver := by decide +kernel
theorem lX6_deliver_f79 : Cond.fieldLink RX6 79 "QuarryBlends$Quarry" "delivered" "I" ∈ wsX6_deliver := by decide +kernel
theorem lX6_deliver_f82 : Cond.fieldLink RX6 82 "QuarryBlends$Quarry" "paid" "I" ∈ wsX6_deliver := by decide +kernel
theorem iX6_deliver_X0 : ∀ w ∈ wsX00, w ∈ wsX6_deliver := by decide +kernel
theorem iX6_deliver_X1 : ∀ w ∈ wsX10, w ∈ wsX6_deliver := by decide +kernel
theorem iX6_deliver_X2 : ∀ w ∈ wsX20, w ∈ wsX6_deliver := by decide +kernel
theorem iX6_deliver_X6 : ∀ w ∈ wsX60, w ∈ wsX6_deliver := by decide +kernel
set_option maxHeartbeats 4000000 in
set_option maxRecDepth 100000 in
theorem kX6_deliver_b112 {p : Program} {l : Launch} {e : Env} {s : State} {m : MethodId} {args : Array Value} {below : List Frame} {meth : Method} {c : Code} {G : qG} {A : Nat → Prop} {Qf : State → Prop} {R : va_W} {a : Nat → Nat} {k : qS → Prop} (hx : p.tables.exec = Jvm.exec) (hb : c.code = cX6_deliver) (hml : c.maxLocals = 3) (hown : s.vm.findClass RX6 = some m.cls) (hts : ∀ w ∈ wsX6_deliver, w.before args s = true) (hA : ∀ q : Nat, s.heap.size ≤ q → A q) (hKn : qKn G A s s.heap) (hret : ∀ (q : qS) (H : Heap) (locs : List Loc) (ls : Array Slot) (pc : Nat), k q → va_P G.1 vwCl (wQ G a q ++ R) H → va_D A (wQ G a q ++ R) → va_S A s.heap H locs → decode cX6_deliver pc = .ok (.return_, 1) → W p l e rmX6_deliver s m args below meth c H locs 0 0 Qf (F0 m pc ls [])) {kb4 : qS → Int32 → Int32 → Prop} (hkb4 : ∀ (q : qS) (x1 : Int32) (x2 : Int32) (H : Heap) (locs : List Loc) (ls : Array Slot), kb4 q x1 x2 → va_P G.1 vwCl (wQ G a q ++ R) H → va_D A (wQ G a q ++ R) → va_S A s.heap H locs → lv_has ls 3 [(0, .ref (a 0)), (1, .int x1), (2, .int x2)] → W p l e rmX6_deliver s m args below meth c H locs 0 0 Qf (F0 m 4 ls [])) : ∀ (q : qS) (x1 : Int32) (x2 : Int32) (H : Heap) (locs : List Loc) (ls : Array Slot), wX6_deliver_b112 k kb4 q x1 x2 → va_P G.1 vwCl (wQ G a q ++ R) H → va_D A (wQ G a q ++ R) → va_S A s.heap H locs → lv_has ls 3 [(0, .ref (a 0)), (1, .int x1), (2, .int x2)] → W p l e rmX6_deliver s m args below meth c H locs 0 0 Qf (F0 m 112 ls []) := by
  intro q x1 x2 H locs ls h hP hD hS hl
  unfold wX6_deliver_b112 at h
  obtain ⟨y1, ey1⟩ : ∃ z : Int32, z = x2 + (1 : Int32) := ⟨_, rfl⟩
  have h := h y1 ey1
  refine lv_iinc (v := y1) (lv' := [(2, .int y1), (0, .ref (a 0)), (1, .int x1)]) hx hb dX6_deliver_112 hl (k := 2) rfl (by rw [ey1]; rfl) (by decide) rfl (fun ls hl => ?_)
  refine lv_goto (tgt := 4) hx hb dX6_deliver_115 (by decide) ?_
  exact hkb4 q x1 y1 _ _ _ h hP hD hS (lv_sub hl [1, 2, 0] rfl)
set_option maxHeartbeats 4000000 in
set_option maxRecDepth 100000 in
theorem kX6_deliver_b118 {p : Program} {l : Launch} {e : Env} {s : State} {m : MethodId} {args : Array Value} {below : List Frame} {meth : Method} {c : Code} {G : qG} {A : Nat → Prop} {Qf : State → Prop} {R : va_W} {a : Nat → Nat} {k : qS → Prop} (hx : p.tables.exec = Jvm.exec) (hb : c.code = cX6_deliver) (hml : c.maxLocals = 3) (hown : s.vm.findClass RX6 = some m.cls) (hts : ∀ w ∈ wsX6_deliver, w.before args s = true) (hA : ∀ q : Nat, s.heap.size ≤ q → A q) (hKn : qKn G A s s.heap) (hret : ∀ (q : qS) (H : Heap) (locs : List Loc) (ls : Array Slot) (pc : Nat), k q → va_P G.1 vwCl (wQ G a q ++ R) H → va_D A (wQ G a q ++ R) → va_S A s.heap H locs → decode cX6_deliver pc = .ok (.return_, 1) → W p l e rmX6_deliver s m args below meth c H locs 0 0 Qf (F0 m pc ls [])) : ∀ (q : qS) (H : Heap) (locs : List Loc) (ls : Array Slot), wX6_deliver_b118 k q → va_P G.1 vwCl (wQ G a q ++ R) H → va_D A (wQ G a q ++ R) → va_S A s.heap H locs → lv_has ls 3 [] → W p l e rmX6_deliver s m args below meth c H locs 0 0 Qf (F0 m 118 ls []) := by
  intro q H locs ls h hP hD hS hl
  unfold wX6_deliver_b118 at h
  exact hret _ _ _ _ _ h hP hD hS dX6_deliver_118
set_option maxHeartbeats 4000000 in
set_option maxRecDepth 100000 in
theorem kX6_deliver_b4 {p : Program} {l : Launch} {e : Env} {s : State} {m : MethodId} {args : Array Value} {below : List Frame} {meth : Method} {c : Code} {G : qG} {A : Nat → Prop} {Qf : State → Prop} {R : va_W} {a : Nat → Nat} {k : qS → Prop} (hx : p.tables.exec = Jvm.exec) (hb : c.code = cX6_deliver) (hml : c.maxLocals = 3) (hown : s.vm.findClass RX6 = some m.cls) (hts : ∀ w ∈ wsX6_deliver, w.before args s = true) (hA : ∀ q : Nat, s.heap.size ≤ q → A q) (hKn : qKn G A s s.heap) (hret : ∀ (q : qS) (H : Heap) (locs : List Loc) (ls : Array Slot) (pc : Nat), k q → va_P G.1 vwCl (wQ G a q ++ R) H → va_D A (wQ G a q ++ R) → va_S A s.heap H locs → decode cX6_deliver pc = .ok (.return_, 1) → W p l e rmX6_deliver s m args below meth c H locs 0 0 Qf (F0 m pc ls [])) : ∀ (n : Nat) (q : qS) (x1 : Int32) (x2 : Int32) (H : Heap) (locs : List Loc) (ls : Array Slot), wX6_deliver_b4 k n q x1 x2 → va_P G.1 vwCl (wQ G a q ++ R) H → va_D A (wQ G a q ++ R) → va_S A s.heap H locs → lv_has ls 3 [(0, .ref (a 0)), (1, .int x1), (2, .int x2)] → W p l e rmX6_deliver s m args below meth c H locs 0 0 Qf (F0 m 4 ls []) := by
  intro n
  induction n with
  | zero => intros; rename_i h _ _ _ _; exact h.elim
  | succ n ih =>
    intro q x1 x2 H locs ls h hP hD hS hl
    unfold wX6_deliver_b4 at h
    refine lv_iload_n hx hb dX6_deliver_4 rfl (lv_at hl 2 rfl) ?_
    refine lv_bipush (v := (12 : Int32)) hx hb dX6_deliver_5 (by decide) ?_
    refine lv_icmp_ge (tgt := 118) hx hb dX6_deliver_7 (by decide) (fun c1 => ?_) (fun c1 => ?_)
    · have h := h.1 c1
      exact kX6_deliver_b118 hx hb hml hown hts hA hKn hret q _ _ _ h hP hD hS (lv_sub hl [] rfl)
    · have h := h.2 c1
      refine lv_iload_n hx hb dX6_deliver_10 rfl (lv_at hl 1 rfl) ?_
      refine lv_aload_n hx hb dX6_deliver_11 rfl (lv_at hl 0 rfl) ?_
      refine va_get (D := G.1) (ci := 6) (v := .ref (a 16)) (C := RX6) (T := TX6) (N := 10) hx hb hts iX6_deliver_X6 hown hKn.k hP 0 rfl rfl 4 (by decide) (hts _ lX6_deliver_f47) (fun _ h9 => h9) rfl dX6_deliver_12 ?_
      refine va_get (D := G.1) (ci := 1) (v := .int (q 0 5)) (C := RX1) (T := TX1) (N := 2) hx hb hts iX6_deliver_X1 hown hKn.k hP 15 rfl rfl 1 (by decide) (hts _ lX6_deliver_f106) (fun _ h9 => h9) rfl dX6_deliver_15 ?_
      refine lv_icmp_ge (tgt := 118) hx hb dX6_deliver_18 (by decide) (fun c1 => ?_) (fun c1 => ?_)
      · have h := h.1 c1
        exact kX6_deliver_b118 hx hb hml hown hts hA hKn hret q _ _ _ h hP hD hS (lv_sub hl [] rfl)
      · have h := h.2 c1
        refine lv_aload_n hx hb dX6_deliver_21 rfl (lv_at hl 0 rfl) ?_
        refine va_get (D := G.1) (ci := 6) (v := .ref (a 17)) (C := RX6) (T := TX6) (N := 10) hx hb hts iX6_deliver_X6 hown hKn.k hP 0 rfl rfl 5 (by decide) (hts _ lX6_deliver_f54) (fun _ h9 => h9) rfl dX6_deliver_22 ?_
        refine lv_aload_n hx hb dX6_deliver_25 rfl (lv_at hl 0 rfl) ?_
        refine va_get (D := G.1) (ci := 6) (v := .ref (a 16)) (C := RX6) (T := TX6) (N := 10) hx hb hts iX6_deliver_X6 hown hKn.k hP 0 rfl rfl 4 (by decide) (hts _ lX6_deliver_f47) (fun _ h9 => h9) rfl dX6_deliver_26 ?_
        refine lv_iload_n hx hb dX6_deliver_29 rfl (lv_at hl 1 rfl) ?_
        refine lv_aload_n hx hb dX6_deliver_30 rfl (lv_at hl 0 rfl) ?_
        refine va_get (D := G.1) (ci := 6) (v := .ref (a 15)) (C := RX6) (T := TX6) (N := 10) hx hb hts iX6_deliver_X6 hown hKn.k hP 0 rfl rfl 3 (by decide) (hts _ lX6_deliver_f40) (fun _ h9 => h9) rfl dX6_deliver_31 ?_
        refine va_get (D := G.1) (ci := 2) (v := .ref (a 11)) (C := RX2) (T := TX2) (N := 4) hx hb hts iX6_deliver_X2 hown hKn.k hP 12 rfl rfl 1 (by decide) (hts _ lX6_deliver_f163) (fun _ h9 => h9) rfl dX6_deliver_34 ?_
        refine qc_vv (As := [.ref (a 16), .int x1, .ref (a 11)]) (rest := []) ⟨hx, hb, hml, hown, hts⟩ (mX0_workOut l G _ _ a q _ x1) (cwV 3 hts gX6_deliver_X0_workOut rfl rfl rfl (by decide +kernel) ⟨Nat.le_of_ble_eq_true rfl, Nat.le_of_ble_eq_true rfl⟩) hP hD hS hA hKn 17 0 rfl rfl rfl h rfl hl.1 rfl (Nat.le_of_ble_eq_true rfl) dX6_deliver_37 ⟨Nat.zero_le _, Nat.zero_le _⟩ (fun q3 H locs h hP hD hS => ?_)
        have hP : va_P G.1 vwCl (wQ G a q3 ++ R) H := hP
        have hD : va_D A (wQ G a q3 ++ R) := hD
        refine lv_aload_n hx hb dX6_deliver_40 rfl (lv_at hl 0 rfl) ?_
        refine va_get (D := G.1) (ci := 6) (v := .ref (a 17)) (C := RX6) (T := TX6) (N := 10) hx hb hts iX6_deliver_X6 hown hKn.k hP 0 rfl rfl 5 (by decide) (hts _ lX6_deliver_f54) (fun _ h9 => h9) rfl dX6_deliver_41 ?_
        refine va_get (D := G.1) (ci := 0) (v := .int (q3 0 15)) (C := RX0) (T := TX0) (N := 8) hx hb hts iX6_deliver_X0 hown hKn.k hP 17 rfl rfl 7 (by decide) (hts _ lX6_deliver_f170) (fun _ h9 => h9) rfl dX6_deliver_44 ?_
        refine lv_if_eq (tgt := 56) hx hb dX6_deliver_47 (by decide) (fun c1 => ?_) (fun c1 => ?_)
        · have h := h.1 c1
          refine lv_aload_n hx hb dX6_deliver_56 rfl (lv_at hl 0 rfl) ?_
          refine lv_dup hx hb dX6_deliver_57 rfl ?_
          refine va_get (D := G.1) (ci := 6) (v := .int (q3 0 2)) (C := RX6) (T := TX6) (N := 10) hx hb hts iX6_deliver_X6 hown hKn.k hP 0 rfl rfl 8 (by decide) (hts _ lX6_deliver_f82) (fun _ h9 => h9) rfl dX6_deliver_58 ?_
          refine lv_aload_n hx hb dX6_deliver_61 rfl (lv_at hl 0 rfl) ?_
          refine va_get (D := G.1) (ci := 6) (v := .ref (a 17)) (C := RX6) (T := TX6) (N := 10) hx hb hts iX6_deliver_X6 hown hKn.k hP 0 rfl rfl 5 (by decide) (hts _ lX6_deliver_f54) (fun _ h9 => h9) rfl dX6_deliver_62 ?_
          refine va_get (D := G.1) (ci := 0) (v := .int (q3 0 8)) (C := RX0) (T := TX0) (N := 8) hx hb hts iX6_deliver_X0 hown hKn.k hP 17 rfl rfl 0 (by decide) (hts _ lX6_deliver_f173) (fun _ h9 => h9) rfl dX6_deliver_65 ?_
          refine lv_aload_n hx hb dX6_deliver_68 rfl (lv_at hl 0 rfl) ?_
          refine va_get (D := G.1) (ci := 6) (v := .ref (a 16)) (C := RX6) (T := TX6) (N := 10) hx hb hts iX6_deliver_X6 hown hKn.k hP 0 rfl rfl 4 (by decide) (hts _ lX6_deliver_f47) (fun _ h9 => h9) rfl dX6_deliver_69 ?_
          refine lv_iload_n hx hb dX6_deliver_72 rfl (lv_at hl 1 rfl) ?_
          refine lv_iconst (v := (5 : Int32)) hx hb dX6_deliver_73 (by decide) ?_
          refine qc_vi (As := [.int x1, .int (5 : Int32)]) (rest := [.int (q3 0 8), .int (q3 0 2), .ref (a 0)]) ⟨hx, hb, hml, hown, hts⟩ (mX1_term l G _ _ a q3 _ x1 (5 : Int32)) (cwV 2 hts gX6_deliver_X1_term rfl rfl rfl (by decide +kernel) ⟨Nat.le_of_ble_eq_true rfl, Nat.le_of_ble_eq_true rfl⟩) hP hD hS hA hKn 15 1 rfl rfl rfl h rfl hl.1 rfl (Nat.le_of_ble_eq_true rfl) dX6_deliver_74 ⟨Nat.zero_le _, Nat.zero_le _⟩ (fun r4 q5 H locs h hP hD hS => ?_)
          have hP : va_P G.1 vwCl (wQ G a q5 ++ R) H := hP
          have hD : va_D A (wQ G a q5 ++ R) := hD
          refine lv_imul hx hb dX6_deliver_77 ?_
          refine lv_iadd hx hb dX6_deliver_78 ?_
          refine lv_topi (fun y6 ey6 => ?_)
          have h := h y6 ey6
          refine va_put (D := G.1) (ci := 6) (v := .int y6) (ty := .int) (C := RX6) (T := TX6) (N := 10) hx hb hts iX6_deliver_X6 tyX6 tyX6_ok nmX6 hown hKn.k hP hD hS 0 rfl rfl 8 (by decide) (hts _ lX6_deliver_f82) (fun _ h9 => h9) rfl (by decide +kernel) rfl rfl (Nat.le_of_ble_eq_true rfl) dX6_deliver_79 (fun H locs hP hD hS => ?_)
          obtain ⟨q7, eq7⟩ : ∃ z : qS, z = up2 q5 0 2 y6 := ⟨_, rfl⟩
          have hP : va_P G.1 vwCl (wQ G a q7 ++ R) H := by rw [eq7]; exact hP
          have hD : va_D A (wQ G a q7 ++ R) := by rw [eq7]; exact hD
          have h := h q7 eq7
          refine lv_aload_n hx hb dX6_deliver_82 rfl (lv_at hl 0 rfl) ?_
          refine lv_dup hx hb dX6_deliver_83 rfl ?_
          refine va_get (D := G.1) (ci := 6) (v := .int (q7 0 1)) (C := RX6) (T := TX6) (N := 10) hx hb hts iX6_deliver_X6 hown hKn.k hP 0 rfl rfl 7 (by decide) (hts _ lX6_deliver_f79) (fun _ h9 => h9) rfl dX6_deliver_84 ?_
          refine lv_iconst (v := (1 : Int32)) hx hb dX6_deliver_87 (by decide) ?_
          refine lv_iadd hx hb dX6_deliver_88 ?_
          refine lv_topi (fun y8 ey8 => ?_)
          have h := h y8 ey8
          refine va_put (D := G.1) (ci := 6) (v := .int y8) (ty := .int) (C := RX6) (T := TX6) (N := 10) hx hb hts iX6_deliver_X6 tyX6 tyX6_ok nmX6 hown hKn.k hP hD hS 0 rfl rfl 7 (by decide) (hts _ lX6_deliver_f79) (fun _ h9 => h9) rfl (by decide +kernel) rfl rfl (Nat.le_of_ble_eq_true rfl) dX6_deliver_89 (fun H locs hP hD hS => ?_)
          obtain ⟨q9, eq9⟩ : ∃ z : qS, z = up2 q7 0 1 y8 := ⟨_, rfl⟩
          have hP : va_P G.1 vwCl (wQ G a q9 ++ R) H := by rw [eq9]; exact hP
          have hD : va_D A (wQ G a q9 ++ R) := by rw [eq9]; exact hD
          have h := h q9 eq9
          refine lv_aload_n hx hb dX6_deliver_92 rfl (lv_at hl 0 rfl) ?_
          refine va_get (D := G.1) (ci := 6) (v := .ref (a 15)) (C := RX6) (T := TX6) (N := 10) hx hb hts iX6_deliver_X6 hown hKn.k hP 0 rfl rfl 3 (by decide) (hts _ lX6_deliver_f40) (fun _ h9 => h9) rfl dX6_deliver_93 ?_
          refine lv_aload_n hx hb dX6_deliver_96 rfl (lv_at hl 0 rfl) ?_
          refine va_get (D := G.1) (ci := 6) (v := .ref (a 17)) (C := RX6) (T := TX6) (N := 10) hx hb hts iX6_deliver_X6 hown hKn.k hP 0 rfl rfl 5 (by decide) (hts _ lX6_deliver_f54) (fun _ h9 => h9) rfl dX6_deliver_97 ?_
          refine qc_vv (As := [.ref (a 17)]) (rest := []) ⟨hx, hb, hml, hown, hts⟩ (mX2_takeOut l G _ _ a q9 _ ) (cwV 1 hts gX6_deliver_X2_takeOut rfl rfl rfl (by decide +kernel) ⟨Nat.le_of_ble_eq_true rfl, Nat.le_of_ble_eq_true rfl⟩) hP hD hS hA hKn 12 2 rfl rfl rfl h rfl hl.1 rfl (Nat.le_of_ble_eq_true rfl) dX6_deliver_100 ⟨Nat.zero_le _, Nat.zero_le _⟩ (fun q11 H locs h hP hD hS => ?_)
          have hP : va_P G.1 vwCl (wQ G a q11 ++ R) H := hP
          have hD : va_D A (wQ G a q11 ++ R) := hD
          refine lv_aload_n hx hb dX6_deliver_103 rfl (lv_at hl 0 rfl) ?_
          refine va_get (D := G.1) (ci := 6) (v := .ref (a 16)) (C := RX6) (T := TX6) (N := 10) hx hb hts iX6_deliver_X6 hown hKn.k hP 0 rfl rfl 4 (by decide) (hts _ lX6_deliver_f47) (fun _ h9 => h9) rfl dX6_deliver_104 ?_
          refine lv_iload_n hx hb dX6_deliver_107 rfl (lv_at hl 1 rfl) ?_
          refine qc_vi (As := [.int x1]) (rest := []) ⟨hx, hb, hml, hown, hts⟩ (mX1_dropOne l G _ _ a q11 _ x1) (cwV 1 hts gX6_deliver_X1_dropOne rfl rfl rfl (by decide +kernel) ⟨Nat.le_of_ble_eq_true rfl, Nat.le_of_ble_eq_true rfl⟩) hP hD hS hA hKn 15 1 rfl rfl rfl h rfl hl.1 rfl (Nat.le_of_ble_eq_true rfl) dX6_deliver_108 ⟨Nat.zero_le _, Nat.zero_le _⟩ (fun r12 q13 H locs h hP hD hS => ?_)
          have hP : va_P G.1 vwCl (wQ G a q13 ++ R) H := hP
          have hD : va_D A (wQ G a q13 ++ R) := hD
          refine lv_pop hx hb dX6_deliver_111 rfl ?_
          exact kX6_deliver_b112 hx hb hml hown hts hA hKn hret ih q13 x1 x2 _ _ _ h hP hD hS (lv_sub hl [0, 1, 2] rfl)
        · have h := h.2 c1
          obtain ⟨y14, ey14⟩ : ∃ z : Int32, z = x1 + (1 : Int32) := ⟨_, rfl⟩
          have h := h y14 ey14
          refine lv_iinc (v := y14) (lv' := [(1, .int y14), (0, .ref (a 0)), (2, .int x2)]) hx hb dX6_deliver_50 hl (k := 1) rfl (by rw [ey14]; rfl) (by decide) rfl (fun ls hl => ?_)
          refine lv_goto (tgt := 112) hx hb dX6_deliver_53 (by decide) ?_
          exact kX6_deliver_b112 hx hb hml hown hts hA hKn hret ih q3 y14 x2 _ _ _ h hP hD hS (lv_sub hl [1, 0, 2] rfl)
set_option maxHeartbeats 4000000 in
set_option maxRecDepth 100000 in
theorem mX6_deliver (l : Launch) (G : qG) (k : qS → Prop) (R : va_W) (a : Nat → Nat) (q : qS) (sz : Nat) : Met l yX6_deliver wsX6_deliver rmX6_deliver (qPc G [.ref (a 0)] (wQ G a q ++ R) sz (wX6_deliver k q)) (qQv G (wQ G a q ++ R) sz (fun (u : qS) => k u) (fun (u : qS) => wQ G a u ++ R)) 0 0 (va_A (wQ G a q ++ R) sz) := by
  refine Met.ofW (cc := cX6_deliver) (maxL := 3) (ret := none) (by decide) rfl ?_
  intro p e s m args below meth c s₁ B hml hv
  obtain ⟨rfl, hsz, hP, hD0, hKn0, h⟩ := hv
  have hx := B.exec
  have hb := B.bytes
  have hr := B.returns
  have hts := atoms_spec (ws := wsX6_deliver) B.pre
  have hown : s.vm.findClass RX6 = some m.cls := findClass_of_methodNamed B.named
  have hlocks := B.notSynchronized
  subst hsz
  have hD := hD0.self (sz := s.heap.size)
  generalize hAe : va_A (wQ G a q ++ R) s.heap.size = A at hD hKn0 ⊢
  have hA : ∀ q : Nat, s.heap.size ≤ q → A q := fun q h => by rw [← hAe]; exact Or.inr h
  have hKn : qKn G A s s.heap := hKn0
  have hS : va_S A s.heap s.heap [] := va_S.rf
  have hret : ∀ (q' : qS) (H : Heap) (locs : List Loc) (ls : Array Slot) (pc : Nat), k q' → va_P G.1 vwCl (wQ G a q' ++ R) H → va_D A (wQ G a q' ++ R) → va_S A s.heap H locs → decode cX6_deliver pc = .ok (.return_, 1) → W p l e rmX6_deliver s m #[.ref (a 0)] below meth c H locs 0 0 (MQ below (qQv G (wQ G a q ++ R) s.heap.size (fun (u : qS) => k u) (fun (u : qS) => wQ G a u ++ R)) #[.ref (a 0)] s 0 0 A) (F0 m pc ls []) := fun q' H locs ls pc hk hP hD hS hd => W.vret hx hb hr (fun t ht hW => q_rv (u := (q' : qS)) hAe hk hP hD hS ht) hS.2.2 hd
  have hl := lv_entry ([.ref (a 0)]) (n := 3) (Nat.le_of_ble_eq_true rfl)
  rw [lg_entry_eq]
  generalize (lg_sl ([.ref (a 0)]) ++ List.replicate (3 - (lg_sl ([.ref (a 0)])).length) Slot.unset).toArray = ls at hl ⊢
  have hl : lv_has ls 3 [(0, .ref (a 0))] := hl
  unfold wX6_deliver at h
  show W p l e rmX6_deliver s m #[.ref (a 0)] below meth c s.heap [] 0 0 _ _
  refine lv_iconst (v := (0 : Int32)) hx hb dX6_deliver_0 (by decide) ?_
  refine lv_istore_n (lv' := [(1, .int (0 : Int32)), (0, .ref (a 0))]) hx hb dX6_deliver_1 rfl hl (by decide) rfl (fun ls hl => ?_)
  refine lv_iconst (v := (0 : Int32)) hx hb dX6_deliver_2 (by decide) ?_
  refine lv_istore_n (lv' := [(2, .int (0 : Int32)), (1, .int (0 : Int32)), (0, .ref (a 0))]) hx hb dX6_deliver_3 rfl hl (by decide) rfl (fun ls hl => ?_)
  obtain ⟨n15, h⟩ := h
  exact kX6_deliver_b4 hx hb hml hown hts hA hKn hret n15 q (0 : Int32) (0 : Int32) _ _ _ h hP hD hS (lv_sub hl [2, 1, 0] rfl)
abbrev rmX6_runDays : Room := { frames := 4, cells := 0, slots := 0, locals := 89 }
theorem lX6_runDays_f106 : Cond.fieldLink RX6 106 "QuarryBlends$Contracts" "amount" "I" ∈ wsX6_runDays := by decide +kernel
theorem lX6_runDays_f18 : Cond.fieldLink RX6 18 "QuarryBlends$Quarry" "settings" "[I" ∈ wsX6_runDays := by decide +kernel
theorem lX6_runDays_f40 : Cond.fieldLink RX6 40 "QuarryBlends$Quarry" "crusher" "LQuarryBlends$Crusher;" ∈ wsX6_runDays := by decide +kernel
theorem lX6_runDays_f47 : Cond.fieldLink RX6 47 "QuarryBlends$Quarry" "contracts" "LQuarryBlends$Contracts;" ∈ wsX6_runDays := by decide +kernel
theorem lX6_runDays_f75 : Cond.fieldLink RX6 75 "QuarryBlends$Quarry" "hours" "I" ∈ wsX6_runDays := by decide +kernel
theorem lX6_runDays_f79 : Cond.fieldLink RX6 79 "QuarryBlends$Quarry" "delivered" "I" ∈ wsX6_runDays := by decide +kernel
theorem iX6_runDays_X1 : ∀ w ∈ wsX10, w ∈ wsX6_runDays := by decide +kernel
theorem iX6_runDays_X6 : ∀ w ∈ wsX60, w ∈ wsX6_runDays := by decide +kernel
set_option maxHeartbeats 4000000 in
set_option maxRecDepth 100000 in
theorem kX6_runDays_b39 {p : Program} {l : Launch} {e : Env} {s : State} {m : MethodId} {args : Array Value} {below : List Frame} {meth : Method} {c : Code} {G : qG} {A : Nat → Prop} {Qf : State → Prop} {R : va_W} {a : Nat → Nat} {k : Int32 → qS → Prop} (hx : p.tables.exec = Jvm.exec) (hb : c.code = cX6_runDays) (hml : c.maxLocals = 7) (hown : s.vm.findClass RX6 = some m.cls) (hts : ∀ w ∈ wsX6_runDays, w.before args s = true) (hA : ∀ q : Nat, s.heap.size ≤ q → A q) (hKn : qKn G A s s.heap) (hret : ∀ (r : Int32) (q : qS) (H : Heap) (locs : List Loc) (ls : Array Slot) (pc : Nat), k r q → va_P G.1 vwCl (wQ G a q ++ R) H → va_D A (wQ G a q ++ R) → va_S A s.heap H locs → decode cX6_runDays pc = .ok (.ireturn, 1) → W p l e rmX6_runDays s m args below meth c H locs 0 0 Qf (F0 m pc ls [.int r])) {kb8 : qS → Int32 → Int32 → Int32 → Int32 → Prop} (hkb8 : ∀ (q : qS) (x1 : Int32) (x2 : Int32) (x3 : Int32) (x4 : Int32) (H : Heap) (locs : List Loc) (ls : Array Slot), kb8 q x1 x2 x3 x4 → va_P G.1 vwCl (wQ G a q ++ R) H → va_D A (wQ G a q ++ R) → va_S A s.heap H locs → lv_has ls 7 [(0, .ref (a 0)), (1, .int x1), (2, .int x2), (3, .int x3), (4, .int x4)] → W p l e rmX6_runDays s m args below meth c H locs 0 0 Qf (F0 m 8 ls [])) : ∀ (n : Nat) (q : qS) (x1 : Int32) (x2 : Int32) (x3 : Int32) (x4 : Int32) (x5 : Int32) (x6 : Int32) (H : Heap) (locs : List Loc) (ls : Array Slot), wX6_runDays_b39 k kb8 n q x1 x2 x3 x4 x5 x6 → va_P G.1 vwCl (wQ G a q ++ R) H → va_D A (wQ G a q ++ R) → va_S A s.heap H locs → lv_has ls 7 [(0, .ref (a 0)), (1, .int x1), (2, .int x2), (3, .int x3), (4, .int x4), (5, .int x5), (6, .int x6)] → W p l e rmX6_runDays s m args below meth c H locs 0 0 Qf (F0 m 39 ls []) := by
  intro n
  induction n with
  | zero => intros; rename_i h _ _ _ _; exact h.elim
  | succ n ih =>
    intro q x1 x2 x3 x4 x5 x6 H locs ls h hP hD hS hl
    unfold wX6_runDays_b39 at h
    refine lv_iload hx hb dX6_runDays_39 (lv_at hl 6 rfl) ?_
    refine lv_iload hx hb dX6_runDays_41 (lv_at hl 5 rfl) ?_
    refine lv_icmp_ge (tgt := 89) hx hb dX6_runDays_43 (by decide) (fun c1 => ?_) (fun c1 => ?_)
    · have h := h.1 c1
      refine lv_aload_n hx hb dX6_runDays_89 rfl (lv_at hl 0 rfl) ?_
      refine qc_vv (As := []) (rest := []) ⟨hx, hb, hml, hown, hts⟩ (mX6_deliver l G _ _ a q _ ) (cwV 0 hts gX6_runDays_X6_deliver rfl rfl rfl (by decide +kernel) ⟨Nat.le_of_ble_eq_true rfl, Nat.le_of_ble_eq_true rfl⟩) hP hD hS hA hKn 0 6 rfl rfl rfl h rfl hl.1 rfl (Nat.le_of_ble_eq_true rfl) dX6_runDays_90 ⟨Nat.zero_le _, Nat.zero_le _⟩ (fun q2 H locs h hP hD hS => ?_)
      have hP : va_P G.1 vwCl (wQ G a q2 ++ R) H := hP
      have hD : va_D A (wQ G a q2 ++ R) := hD
      obtain ⟨y3, ey3⟩ : ∃ z : Int32, z = x4 + (1 : Int32) := ⟨_, rfl⟩
      have h := h y3 ey3
      refine lv_iinc (v := y3) (lv' := [(4, .int y3), (0, .ref (a 0)), (1, .int x1), (2, .int x2), (3, .int x3), (5, .int x5), (6, .int x6)]) hx hb dX6_runDays_93 hl (k := 4) rfl (by rw [ey3]; rfl) (by decide) rfl (fun ls hl => ?_)
      refine lv_goto (tgt := 8) hx hb dX6_runDays_96 (by decide) ?_
      exact hkb8 q2 x1 x2 x3 y3 _ _ _ h hP hD hS (lv_sub hl [1, 2, 3, 4, 0] rfl)
    · have h := h.2 c1
      refine lv_aload_n hx hb dX6_runDays_46 rfl (lv_at hl 0 rfl) ?_
      refine qc_vv (As := []) (rest := []) ⟨hx, hb, hml, hown, hts⟩ (mX6_bringLoads l G _ _ a q _ ) (cwV 0 hts gX6_runDays_X6_bringLoads rfl rfl rfl (by decide +kernel) ⟨Nat.le_of_ble_eq_true rfl, Nat.le_of_ble_eq_true rfl⟩) hP hD hS hA hKn 0 6 rfl rfl rfl h rfl hl.1 rfl (Nat.le_of_ble_eq_true rfl) dX6_runDays_47 ⟨Nat.zero_le _, Nat.zero_le _⟩ (fun q5 H locs h hP hD hS => ?_)
      have hP : va_P G.1 vwCl (wQ G a q5 ++ R) H := hP
      have hD : va_D A (wQ G a q5 ++ R) := hD
      refine lv_aload_n hx hb dX6_runDays_50 rfl (lv_at hl 0 rfl) ?_
      refine qc_vv (As := []) (rest := []) ⟨hx, hb, hml, hown, hts⟩ (mX6_sendTrucks l G _ _ a q5 _ ) (cwV 0 hts gX6_runDays_X6_sendTrucks rfl rfl rfl (by decide +kernel) ⟨Nat.le_of_ble_eq_true rfl, Nat.le_of_ble_eq_true rfl⟩) hP hD hS hA hKn 0 6 rfl rfl rfl h rfl hl.1 rfl (Nat.le_of_ble_eq_true rfl) dX6_runDays_51 ⟨Nat.zero_le _, Nat.zero_le _⟩ (fun q7 H locs h hP hD hS => ?_)
      have hP : va_P G.1 vwCl (wQ G a q7 ++ R) H := hP
      have hD : va_D A (wQ G a q7 ++ R) := hD
      refine lv_aload_n hx hb dX6_runDays_54 rfl (lv_at hl 0 rfl) ?_
      refine va_get (D := G.1) (ci := 6) (v := .ref (a 15)) (C := RX6) (T := TX6) (N := 10) hx hb hts iX6_runDays_X6 hown hKn.k hP 0 rfl rfl 3 (by decide) (hts _ lX6_runDays_f40) (fun _ h9 => h9) rfl dX6_runDays_55 ?_
      refine lv_aload_n hx hb dX6_runDays_58 rfl (lv_at hl 0 rfl) ?_
      refine va_get (D := G.1) (ci := 6) (v := .ref (a 1)) (C := RX6) (T := TX6) (N := 10) hx hb hts iX6_runDays_X6 hown hKn.k hP 0 rfl rfl 0 (by decide) (hts _ lX6_runDays_f18) (fun _ h9 => h9) rfl dX6_runDays_59 ?_
      refine lv_iconst (v := (3 : Int32)) hx hb dX6_runDays_62 (by decide) ?_
      refine va_iald hx hb hKn.k hP 1 0 rfl rfl (by unfold vp_in; decide) dX6_runDays_63 ?_
      refine lv_aload_n hx hb dX6_runDays_64 rfl (lv_at hl 0 rfl) ?_
      refine va_get (D := G.1) (ci := 6) (v := .ref (a 1)) (C := RX6) (T := TX6) (N := 10) hx hb hts iX6_runDays_X6 hown hKn.k hP 0 rfl rfl 0 (by decide) (hts _ lX6_runDays_f18) (fun _ h9 => h9) rfl dX6_runDays_65 ?_
      refine lv_iconst (v := (4 : Int32)) hx hb dX6_runDays_68 (by decide) ?_
      refine va_iald hx hb hKn.k hP 1 0 rfl rfl (by unfold vp_in; decide) dX6_runDays_69 ?_
      refine qc_vv (As := [.int (q7 1 3), .int (q7 1 4)]) (rest := []) ⟨hx, hb, hml, hown, hts⟩ (mX2_crushForAnHour l G _ _ a q7 _ (q7 1 3) (q7 1 4)) (cwV 2 hts gX6_runDays_X2_crushForAnHour rfl rfl rfl (by decide +kernel) ⟨Nat.le_of_ble_eq_true rfl, Nat.le_of_ble_eq_true rfl⟩) hP hD hS hA hKn 12 2 rfl rfl rfl h rfl hl.1 rfl (Nat.le_of_ble_eq_true rfl) dX6_runDays_70 ⟨Nat.zero_le _, Nat.zero_le _⟩ (fun q9 H locs h hP hD hS => ?_)
      have hP : va_P G.1 vwCl (wQ G a q9 ++ R) H := hP
      have hD : va_D A (wQ G a q9 ++ R) := hD
      refine lv_aload_n hx hb dX6_runDays_73 rfl (lv_at hl 0 rfl) ?_
      refine lv_dup hx hb dX6_runDays_74 rfl ?_
      refine va_get (D := G.1) (ci := 6) (v := .int (q9 0 0)) (C := RX6) (T := TX6) (N := 10) hx hb hts iX6_runDays_X6 hown hKn.k hP 0 rfl rfl 6 (by decide) (hts _ lX6_runDays_f75) (fun _ h9 => h9) rfl dX6_runDays_75 ?_
      refine lv_iconst (v := (1 : Int32)) hx hb dX6_runDays_78 (by decide) ?_
      refine lv_iadd hx hb dX6_runDays_79 ?_
      refine lv_topi (fun y10 ey10 => ?_)
      have h := h y10 ey10
      refine va_put (D := G.1) (ci := 6) (v := .int y10) (ty := .int) (C := RX6) (T := TX6) (N := 10) hx hb hts iX6_runDays_X6 tyX6 tyX6_ok nmX6 hown hKn.k hP hD hS 0 rfl rfl 6 (by decide) (hts _ lX6_runDays_f75) (fun _ h9 => h9) rfl (by decide +kernel) rfl rfl (Nat.le_of_ble_eq_true rfl) dX6_runDays_80 (fun H locs hP hD hS => ?_)
      obtain ⟨q11, eq11⟩ : ∃ z : qS, z = up2 q9 0 0 y10 := ⟨_, rfl⟩
      have hP : va_P G.1 vwCl (wQ G a q11 ++ R) H := by rw [eq11]; exact hP
      have hD : va_D A (wQ G a q11 ++ R) := by rw [eq11]; exact hD
      have h := h q11 eq11
      obtain ⟨y12, ey12⟩ : ∃ z : Int32, z = x6 + (1 : Int32) := ⟨_, rfl⟩
      have h := h y12 ey12
      refine lv_iinc (v := y12) (lv' := [(6, .int y12), (0, .ref (a 0)), (1, .int x1), (2, .int x2), (3, .int x3), (4, .int x4), (5, .int x5)]) hx hb dX6_runDays_83 hl (k := 6) rfl (by rw [ey12]; rfl) (by decide) rfl (fun ls hl => ?_)
      refine lv_goto (tgt := 39) hx hb dX6_runDays_86 (by decide) ?_
      exact ih q11 x1 x2 x3 x4 x5 y12 _ _ _ h hP hD hS (lv_sub hl [1, 2, 3, 4, 5, 6, 0] rfl)
set_option maxHeartbeats 4000000 in
set_option maxRecDepth 100000 in
theorem kX6_runDays_b28 {p : Program} {l : Launch} {e : Env} {s : State} {m : MethodId} {args : Array Value} {below : List Frame} {meth : Method} {c : Code} {G : qG} {A : Nat → Prop} {Qf : State → Prop} {R : va_W} {a : Nat → Nat} {k : Int32 → qS → Prop} (hx : p.tables.exec = Jvm.exec) (hb : c.code = cX6_runDays) (hml : c.maxLocals = 7) (hown : s.vm.findClass RX6 = some m.cls) (hts : ∀ w ∈ wsX6_runDays, w.before args s = true) (hA : ∀ q : Nat, s.heap.size ≤ q → A q) (hKn : qKn G A s s.heap) (hret : ∀ (r : Int32) (q : qS) (H : Heap) (locs : List Loc) (ls : Array Slot) (pc : Nat), k r q → va_P G.1 vwCl (wQ G a q ++ R) H → va_D A (wQ G a q ++ R) → va_S A s.heap H locs → decode cX6_runDays pc = .ok (.ireturn, 1) → W p l e rmX6_runDays s m args below meth c H locs 0 0 Qf (F0 m pc ls [.int r])) {kb8 : qS → Int32 → Int32 → Int32 → Int32 → Prop} (hkb8 : ∀ (q : qS) (x1 : Int32) (x2 : Int32) (x3 : Int32) (x4 : Int32) (H : Heap) (locs : List Loc) (ls : Array Slot), kb8 q x1 x2 x3 x4 → va_P G.1 vwCl (wQ G a q ++ R) H → va_D A (wQ G a q ++ R) → va_S A s.heap H locs → lv_has ls 7 [(0, .ref (a 0)), (1, .int x1), (2, .int x2), (3, .int x3), (4, .int x4)] → W p l e rmX6_runDays s m args below meth c H locs 0 0 Qf (F0 m 8 ls [])) : ∀ (q : qS) (x1 : Int32) (x2 : Int32) (x3 : Int32) (x4 : Int32) (H : Heap) (locs : List Loc) (ls : Array Slot), wX6_runDays_b28 k kb8 q x1 x2 x3 x4 → va_P G.1 vwCl (wQ G a q ++ R) H → va_D A (wQ G a q ++ R) → va_S A s.heap H locs → lv_has ls 7 [(0, .ref (a 0)), (1, .int x1), (2, .int x2), (3, .int x3), (4, .int x4)] → W p l e rmX6_runDays s m args below meth c H locs 0 0 Qf (F0 m 28 ls []) := by
  intro q x1 x2 x3 x4 H locs ls h hP hD hS hl
  unfold wX6_runDays_b28 at h
  refine lv_aload_n hx hb dX6_runDays_28 rfl (lv_at hl 0 rfl) ?_
  refine va_get (D := G.1) (ci := 6) (v := .ref (a 1)) (C := RX6) (T := TX6) (N := 10) hx hb hts iX6_runDays_X6 hown hKn.k hP 0 rfl rfl 0 (by decide) (hts _ lX6_runDays_f18) (fun _ h9 => h9) rfl dX6_runDays_29 ?_
  refine lv_iconst (v := (2 : Int32)) hx hb dX6_runDays_32 (by decide) ?_
  refine va_iald hx hb hKn.k hP 1 0 rfl rfl (by unfold vp_in; decide) dX6_runDays_33 ?_
  refine lv_topi (fun y13 ey13 => ?_)
  have h := h y13 ey13
  refine lv_istore (lv' := [(5, .int y13), (0, .ref (a 0)), (1, .int x1), (2, .int x2), (3, .int x3), (4, .int x4)]) hx hb dX6_runDays_34 hl (by decide) rfl (fun ls hl => ?_)
  refine lv_iconst (v := (0 : Int32)) hx hb dX6_runDays_36 (by decide) ?_
  refine lv_istore (lv' := [(6, .int (0 : Int32)), (5, .int y13), (0, .ref (a 0)), (1, .int x1), (2, .int x2), (3, .int x3), (4, .int x4)]) hx hb dX6_runDays_37 hl (by decide) rfl (fun ls hl => ?_)
  obtain ⟨n14, h⟩ := h
  exact kX6_runDays_b39 hx hb hml hown hts hA hKn hret hkb8 n14 q x1 x2 x3 x4 y13 (0 : Int32) _ _ _ h hP hD hS (lv_sub hl [2, 3, 4, 5, 6, 1, 0] rfl)
set_option maxHeartbeats 4000000 in
set_option maxRecDepth 100000 in
theorem kX6_runDays_b99 {p : Program} {l : Launch} {e : Env} {s : State} {m : MethodId} {args : Array Value} {below : List Frame} {meth : Method} {c : Code} {G : qG} {A : Nat → Prop} {Qf : State → Prop} {R : va_W} {a : Nat → Nat} {k : Int32 → qS → Prop} (hx : p.tables.exec = Jvm.exec) (hb : c.code = cX6_runDays) (hml : c.maxLocals = 7) (hown : s.vm.findClass RX6 = some m.cls) (hts : ∀ w ∈ wsX6_runDays, w.before args s = true) (hA : ∀ q : Nat, s.heap.size ≤ q → A q) (hKn : qKn G A s s.heap) (hret : ∀ (r : Int32) (q : qS) (H : Heap) (locs : List Loc) (ls : Array Slot) (pc : Nat), k r q → va_P G.1 vwCl (wQ G a q ++ R) H → va_D A (wQ G a q ++ R) → va_S A s.heap H locs → decode cX6_runDays pc = .ok (.ireturn, 1) → W p l e rmX6_runDays s m args below meth c H locs 0 0 Qf (F0 m pc ls [.int r])) : ∀ (q : qS) (x3 : Int32) (H : Heap) (locs : List Loc) (ls : Array Slot), wX6_runDays_b99 k q x3 → va_P G.1 vwCl (wQ G a q ++ R) H → va_D A (wQ G a q ++ R) → va_S A s.heap H locs → lv_has ls 7 [(0, .ref (a 0)), (3, .int x3)] → W p l e rmX6_runDays s m args below meth c H locs 0 0 Qf (F0 m 99 ls []) := by
  intro q x3 H locs ls h hP hD hS hl
  unfold wX6_runDays_b99 at h
  refine lv_aload_n hx hb dX6_runDays_99 rfl (lv_at hl 0 rfl) ?_
  refine va_get (D := G.1) (ci := 6) (v := .int (q 0 1)) (C := RX6) (T := TX6) (N := 10) hx hb hts iX6_runDays_X6 hown hKn.k hP 0 rfl rfl 7 (by decide) (hts _ lX6_runDays_f79) (fun _ h9 => h9) rfl dX6_runDays_100 ?_
  refine lv_iload_n hx hb dX6_runDays_103 rfl (lv_at hl 1 rfl) ?_
  refine lv_isub hx hb dX6_runDays_104 ?_
  exact hret _ _ _ _ _ _ h hP hD hS dX6_runDays_105
set_option maxHeartbeats 4000000 in
set_option maxRecDepth 100000 in
theorem kX6_runDays_b8 {p : Program} {l : Launch} {e : Env} {s : State} {m : MethodId} {args : Array Value} {below : List Frame} {meth : Method} {c : Code} {G : qG} {A : Nat → Prop} {Qf : State → Prop} {R : va_W} {a : Nat → Nat} {k : Int32 → qS → Prop} (hx : p.tables.exec = Jvm.exec) (hb : c.code = cX6_runDays) (hml : c.maxLocals = 7) (hown : s.vm.findClass RX6 = some m.cls) (hts : ∀ w ∈ wsX6_runDays, w.before args s = true) (hA : ∀ q : Nat, s.heap.size ≤ q → A q) (hKn : qKn G A s s.heap) (hret : ∀ (r : Int32) (q : qS) (H : Heap) (locs : List Loc) (ls : Array Slot) (pc : Nat), k r q → va_P G.1 vwCl (wQ G a q ++ R) H → va_D A (wQ G a q ++ R) → va_S A s.heap H locs → decode cX6_runDays pc = .ok (.ireturn, 1) → W p l e rmX6_runDays s m args below meth c H locs 0 0 Qf (F0 m pc ls [.int r])) : ∀ (n : Nat) (q : qS) (x1 : Int32) (x2 : Int32) (x3 : Int32) (x4 : Int32) (H : Heap) (locs : List Loc) (ls : Array Slot), wX6_runDays_b8 k n q x1 x2 x3 x4 → va_P G.1 vwCl (wQ G a q ++ R) H → va_D A (wQ G a q ++ R) → va_S A s.heap H locs → lv_has ls 7 [(0, .ref (a 0)), (1, .int x1), (2, .int x2), (3, .int x3), (4, .int x4)] → W p l e rmX6_runDays s m args below meth c H locs 0 0 Qf (F0 m 8 ls []) := by
  intro n
  induction n with
  | zero => intros; rename_i h _ _ _ _; exact h.elim
  | succ n ih =>
    intro q x1 x2 x3 x4 H locs ls h hP hD hS hl
    unfold wX6_runDays_b8 at h
    refine lv_iload hx hb dX6_runDays_8 (lv_at hl 4 rfl) ?_
    refine lv_iload_n hx hb dX6_runDays_10 rfl (lv_at hl 1 rfl) ?_
    refine lv_icmp_ge (tgt := 99) hx hb dX6_runDays_11 (by decide) (fun c1 => ?_) (fun c1 => ?_)
    · have h := h.1 c1
      exact kX6_runDays_b99 hx hb hml hown hts hA hKn hret q x3 _ _ _ h hP hD hS (lv_sub hl [0, 3] rfl)
    · have h := h.2 c1
      refine lv_iload_n hx hb dX6_runDays_14 rfl (lv_at hl 2 rfl) ?_
      refine lv_if_eq (tgt := 28) hx hb dX6_runDays_15 (by decide) (fun c1 => ?_) (fun c1 => ?_)
      · have h := h.1 c1
        exact kX6_runDays_b28 hx hb hml hown hts hA hKn hret ih q x1 x2 x3 x4 _ _ _ h hP hD hS (lv_sub hl [0, 1, 2, 3, 4] rfl)
      · have h := h.2 c1
        refine lv_aload_n hx hb dX6_runDays_18 rfl (lv_at hl 0 rfl) ?_
        refine va_get (D := G.1) (ci := 6) (v := .ref (a 16)) (C := RX6) (T := TX6) (N := 10) hx hb hts iX6_runDays_X6 hown hKn.k hP 0 rfl rfl 4 (by decide) (hts _ lX6_runDays_f47) (fun _ h9 => h9) rfl dX6_runDays_19 ?_
        refine va_get (D := G.1) (ci := 1) (v := .int (q 0 5)) (C := RX1) (T := TX1) (N := 2) hx hb hts iX6_runDays_X1 hown hKn.k hP 15 rfl rfl 1 (by decide) (hts _ lX6_runDays_f106) (fun _ h9 => h9) rfl dX6_runDays_22 ?_
        refine lv_if_eq (tgt := 99) hx hb dX6_runDays_25 (by decide) (fun c1 => ?_) (fun c1 => ?_)
        · have h := h.1 c1
          exact kX6_runDays_b99 hx hb hml hown hts hA hKn hret q x3 _ _ _ h hP hD hS (lv_sub hl [0, 3] rfl)
        · have h := h.2 c1
          exact kX6_runDays_b28 hx hb hml hown hts hA hKn hret ih q x1 x2 x3 x4 _ _ _ h hP hD hS (lv_sub hl [0, 1, 2, 3, 4] rfl)
set_option maxHeartbeats 4000000 in
set_option maxRecDepth 100000 in
theorem mX6_runDays (l : Launch) (G : qG) (k : Int32 → qS → Prop) (R : va_W) (a : Nat → Nat) (q : qS) (sz : Nat) (p0 : Int32) (p1 : Int32) : Met l yX6_runDays wsX6_runDays rmX6_runDays (qPc G [.ref (a 0), .int p0, .int p1] (wQ G a q ++ R) sz (wX6_runDays k q p0 p1)) (qQi G (wQ G a q ++ R) sz (fun (r : Int32) (u : qS) => k r u) (fun (u : qS) => wQ G a u ++ R)) 0 0 (va_A (wQ G a q ++ R) sz) := by
  refine Met.ofW (cc := cX6_runDays) (maxL := 7) (ret := (some .int)) (by decide) rfl ?_
  intro p e s m args below meth c s₁ B hml hv
  obtain ⟨rfl, hsz, hP, hD0, hKn0, h⟩ := hv
  have hx := B.exec
  have hb := B.bytes
  have hr := B.returns
  have hts := atoms_spec (ws := wsX6_runDays) B.pre
  have hown : s.vm.findClass RX6 = some m.cls := findClass_of_methodNamed B.named
  have hlocks := B.notSynchronized
  subst hsz
  have hD := hD0.self (sz := s.heap.size)
  generalize hAe : va_A (wQ G a q ++ R) s.heap.size = A at hD hKn0 ⊢
  have hA : ∀ q : Nat, s.heap.size ≤ q → A q := fun q h => by rw [← hAe]; exact Or.inr h
  have hKn : qKn G A s s.heap := hKn0
  have hS : va_S A s.heap s.heap [] := va_S.rf
  have hret : ∀ (r : Int32) (q' : qS) (H : Heap) (locs : List Loc) (ls : Array Slot) (pc : Nat), k r q' → va_P G.1 vwCl (wQ G a q' ++ R) H → va_D A (wQ G a q' ++ R) → va_S A s.heap H locs → decode cX6_runDays pc = .ok (.ireturn, 1) → W p l e rmX6_runDays s m #[.ref (a 0), .int p0, .int p1] below meth c H locs 0 0 (MQ below (qQi G (wQ G a q ++ R) s.heap.size (fun (r : Int32) (u : qS) => k r u) (fun (u : qS) => wQ G a u ++ R)) #[.ref (a 0), .int p0, .int p1] s 0 0 A) (F0 m pc ls [.int r]) := fun r q' H locs ls pc hk hP hD hS hd => W.iret hx hb hr (fun t ht hW => q_ri (u := (q' : qS)) hAe hk hP hD hS ht) hS.2.2 hd
  have hl := lv_entry ([.ref (a 0), .int p0, .int p1]) (n := 7) (Nat.le_of_ble_eq_true rfl)
  rw [lg_entry_eq]
  generalize (lg_sl ([.ref (a 0), .int p0, .int p1]) ++ List.replicate (7 - (lg_sl ([.ref (a 0), .int p0, .int p1])).length) Slot.unset).toArray = ls at hl ⊢
  have hl : lv_has ls 7 [(0, .ref (a 0)), (1, .int p0), (2, .int p1)] := hl
  unfold wX6_runDays at h
  show W p l e rmX6_runDays s m #[.ref (a 0), .int p0, .int p1] below meth c s.heap [] 0 0 _ _
  refine lv_aload_n hx hb dX6_runDays_0 rfl (lv_at hl 0 rfl) ?_
  refine va_get (D := G.1) (ci := 6) (v := .int (q 0 1)) (C := RX6) (T := TX6) (N := 10) hx hb hts iX6_runDays_X6 hown hKn.k hP 0 rfl rfl 7 (by decide) (hts _ lX6_runDays_f79) (fun _ h9 => h9) rfl dX6_runDays_1 ?_
  refine lv_topi (fun y15 ey15 => ?_)
  have h := h y15 ey15
  refine lv_istore_n (lv' := [(3, .int y15), (0, .ref (a 0)), (1, .int p0), (2, .int p1)]) hx hb dX6_runDays_4 rfl hl (by decide) rfl (fun ls hl => ?_)
  refine lv_iconst (v := (0 : Int32)) hx hb dX6_runDays_5 (by decide) ?_
  refine lv_istore (lv' := [(4, .int (0 : Int32)), (3, .int y15), (0, .ref (a 0)), (1, .int p0), (2, .int p1)]) hx hb dX6_runDays_6 hl (by decide) rfl (fun ls hl => ?_)
  obtain ⟨n16, h⟩ := h
  exact kX6_runDays_b8 hx hb hml hown hts hA hKn hret n16 q p0 p1 y15 (0 : Int32) _ _ _ h hP hD hS (lv_sub hl [2, 3, 4, 1, 0] rfl)
