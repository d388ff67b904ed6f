abbrev rmJ0_isLatin1_aae02 : Room := { frames := 0, cells := 0, slots := 0, locals := 0 }
theorem lJ0_isLatin1_aae02_f15 : Cond.fieldLink RJ0 15 "java/lang/String" "coder" "B" ∈ wsJ0_isLatin1_aae02 := by decide +kernel
theorem lJ0_isLatin1_aae02_f38 : Cond.fieldLink RJ0 38 "java/lang/String" "COMPACT_STRINGS" "Z" ∈ wsJ0_isLatin1_aae02 := by decide +kernel
set_option maxHeartbeats 4000000 in
set_option maxRecDepth 100000 in
theorem kJ0_isLatin1_aae02_b18 {p : Program} {l : Launch} {e : Env} {s : State} {m : MethodId} {args : Array Value} {below : List Frame} {meth : Method} {c : Code} {G : qG} {A : Nat → Prop} {Qf : State → Prop} {R : va_W}  {k : Int32 → Prop} (hx : p.tables.exec = Jvm.exec) (hb : c.code = cJ0_isLatin1_aae02) (hml : c.maxLocals = 1) (hown : s.vm.findClass RJ0 = some m.cls) (hts : ∀ w ∈ wsJ0_isLatin1_aae02, w.before args s = true) (hA : ∀ q : Nat, s.heap.size ≤ q → A q) (hKn : qKn G A s s.heap) (hret : ∀ (r : Int32)  (H : Heap) (locs : List Loc) (ls : Array Slot) (pc : Nat), k r  → narrow .boolean (.int r) = .int r → va_P G.1 vwCl (R) H → va_D A (R) → va_S A s.heap H locs → decode cJ0_isLatin1_aae02 pc = .ok (.ireturn, 1) → W p l e rmJ0_isLatin1_aae02 s m args below meth c H locs 0 0 Qf (F0 m pc ls [.int r])) : ∀  (z0 : Int32) (H : Heap) (locs : List Loc) (ls : Array Slot), wJ0_isLatin1_aae02_b18 k z0 → va_P G.1 vwCl (R) H → va_D A (R) → va_S A s.heap H locs → lv_has ls 1 [] → W p l e rmJ0_isLatin1_aae02 s m args below meth c H locs 0 0 Qf (F0 m 18 ls [.int z0]) := by
  intro z0 H locs ls h hP hD hS hl
  unfold wJ0_isLatin1_aae02_b18 at h
  obtain ⟨hn1, h⟩ := h
  exact hret _ _ _ _ _ h hn1 hP hD hS dJ0_isLatin1_aae02_18
set_option maxHeartbeats 4000000 in
set_option maxRecDepth 100000 in
theorem kJ0_isLatin1_aae02_b17 {p : Program} {l : Launch} {e : Env} {s : State} {m : MethodId} {args : Array Value} {below : List Frame} {meth : Method} {c : Code} {G : qG} {A : Nat → Prop} {Qf : State → Prop} {R : va_W}  {k : Int32 → Prop} (hx : p.tables.exec = Jvm.exec) (hb : c.code = cJ0_isLatin1_aae02) (hml : c.maxLocals = 1) (hown : s.vm.findClass RJ0 = some m.cls) (hts : ∀ w ∈ wsJ0_isLatin1_aae02, w.before args s = true) (hA : ∀ q : Nat, s.heap.size ≤ q → A q) (hKn : qKn G A s s.heap) (hret : ∀ (r : Int32)  (H : Heap) (locs : List Loc) (ls : Array Slot) (pc : Nat), k r  → narrow .boolean (.int r) = .int r → va_P G.1 vwCl (R) H → va_D A (R) → va_S A s.heap H locs → decode cJ0_isLatin1_aae02 pc = .ok (.ireturn, 1) → W p l e rmJ0_isLatin1_aae02 s m args below meth c H locs 0 0 Qf (F0 m pc ls [.int r])) : ∀  (H : Heap) (locs : List Loc) (ls : Array Slot), wJ0_isLatin1_aae02_b17 k  → va_P G.1 vwCl (R) H → va_D A (R) → va_S A s.heap H locs → lv_has ls 1 [] → W p l e rmJ0_isLatin1_aae02 s m args below meth c H locs 0 0 Qf (F0 m 17 ls []) := by
  intro  H locs ls h hP hD hS hl
  unfold wJ0_isLatin1_aae02_b17 at h
  refine lv_iconst (v := (0 : Int32)) hx hb dJ0_isLatin1_aae02_17 (by decide) ?_
  exact kJ0_isLatin1_aae02_b18 hx hb hml hown hts hA hKn hret (0 : Int32) _ _ _ h hP hD hS (lv_sub hl [] rfl)
set_option maxHeartbeats 4000000 in
set_option maxRecDepth 100000 in
theorem mJ0_isLatin1_aae02 (l : Launch) (G : qG) (k : Int32 → Prop) (R : va_W)  (sz : Nat) (i0 : Nat) : Met l yJ0_isLatin1_aae02 wsJ0_isLatin1_aae02 rmJ0_isLatin1_aae02 (qPc G [.ref (G.2.2.2.1 (i0))] (R) sz (wJ0_isLatin1_aae02 k  i0)) (qQi G (R) sz (fun (r : Int32) (u : Unit) => k r ) (fun (u : Unit) => R)) 0 0 (va_A (R) sz) := by
  refine Met.ofW (cc := cJ0_isLatin1_aae02) (maxL := 1) (ret := (some .boolean)) (by decide) rfl ?_
  intro p e s m args below meth c s₁ B hml hv
  obtain ⟨rfl, hsz, hP, hD0, hKn0, h⟩ := hv
  have hx := B.exec
  have hb := B.bytes
  have hr := B.returns
  have hts := atoms_spec (ws := wsJ0_isLatin1_aae02) B.pre
  have hown : s.vm.findClass RJ0 = some m.cls := findClass_of_methodNamed B.named
  have hlocks := B.notSynchronized
  subst hsz
  have hD := hD0.self (sz := s.heap.size)
  generalize hAe : va_A (R) s.heap.size = A at hD hKn0 ⊢
  have hA : ∀ q : Nat, s.heap.size ≤ q → A q := fun q h => by rw [← hAe]; exact Or.inr h
  have hKn : qKn G A s s.heap := hKn0
  have hS : va_S A s.heap s.heap [] := va_S.rf
  have hret : ∀ (r : Int32)  (H : Heap) (locs : List Loc) (ls : Array Slot) (pc : Nat), k r  → narrow .boolean (.int r) = .int r → va_P G.1 vwCl (R) H → va_D A (R) → va_S A s.heap H locs → decode cJ0_isLatin1_aae02 pc = .ok (.ireturn, 1) → W p l e rmJ0_isLatin1_aae02 s m #[.ref (G.2.2.2.1 (i0))] below meth c H locs 0 0 (MQ below (qQi G (R) s.heap.size (fun (r : Int32) (u : Unit) => k r ) (fun (u : Unit) => R)) #[.ref (G.2.2.2.1 (i0))] s 0 0 A) (F0 m pc ls [.int r]) := fun r  H locs ls pc hk hn hP hD hS hd => W.zret hx hb hr hn (fun t ht hW => q_ri (u := (() : Unit)) hAe hk hP hD hS ht) hS.2.2 hd
  have hl := lv_entry ([.ref (G.2.2.2.1 (i0))]) (n := 1) (Nat.le_of_ble_eq_true rfl)
  rw [lg_entry_eq]
  generalize (lg_sl ([.ref (G.2.2.2.1 (i0))]) ++ List.replicate (1 - (lg_sl ([.ref (G.2.2.2.1 (i0))])).length) Slot.unset).toArray = ls at hl ⊢
  have hl : lv_has ls 1 [(0, .ref (G.2.2.2.1 (i0)))] := hl
  unfold wJ0_isLatin1_aae02 at h
  show W p l e rmJ0_isLatin1_aae02 s m #[.ref (G.2.2.2.1 (i0))] below meth c s.heap [] 0 0 _ _
  refine va_gets (C := "java/lang/String") (n := "COMPACT_STRINGS") (d := "Z") (ref := "java/lang/String") (v := .int 1) hx hb (hKn.2.2.1 _ (List.mem_of_getElem? (i := 3) rfl)) hS hown (hts _ lJ0_isLatin1_aae02_f38) (fun _ h9 => h9) dJ0_isLatin1_aae02_0 ?_
  refine lv_if_eq (tgt := 17) hx hb dJ0_isLatin1_aae02_3 (by decide) (fun c1 => ?_) (fun c1 => ?_)
  · have h := h.1 c1
    exact kJ0_isLatin1_aae02_b17 hx hb hml hown hts hA hKn hret  _ _ _ h hP hD hS (lv_sub hl [] rfl)
  · have h := h.2 c1
    refine lv_aload_n hx hb dJ0_isLatin1_aae02_6 rfl (lv_at hl 0 rfl) ?_
    obtain ⟨hi, h⟩ := h
    refine vk_getf hx hb (hKn.2.2.2.2.2.1.1 _ hi).2.1 hS hown (hts _ lJ0_isLatin1_aae02_f15) (fun _ h9 => h9) dJ0_isLatin1_aae02_7 ?_
    refine lv_if_ne (tgt := 17) hx hb dJ0_isLatin1_aae02_10 (by decide) (fun c1 => ?_) (fun c1 => ?_)
    · have h := h.1 c1
      exact kJ0_isLatin1_aae02_b17 hx hb hml hown hts hA hKn hret  _ _ _ h hP hD hS (lv_sub hl [] rfl)
    · have h := h.2 c1
      refine lv_iconst (v := (1 : Int32)) hx hb dJ0_isLatin1_aae02_13 (by decide) ?_
      refine lv_goto (tgt := 18) hx hb dJ0_isLatin1_aae02_14 (by decide) ?_
      exact kJ0_isLatin1_aae02_b18 hx hb hml hown hts hA hKn hret (1 : Int32) _ _ _ h hP hD hS (lv_sub hl [] rfl)
abbrev rmJ0_coder_7d493 : Room := { frames := 0, cells := 0, slots := 0, locals := 0 }
theorem lJ0_coder_7d493_f15 : Cond.fieldLink RJ0 15 "java/lang/String" "coder" "B" ∈ wsJ0_coder_7d493 := by decide +kernel
theorem lJ0_coder_7d493_f38 : Cond.fieldLink RJ0 38 "java/lang/String" "COMPACT_STRINGS" "Z" ∈ wsJ0_coder_7d493 := by decide +kernel
set_option maxHeartbeats 4000000 in
set_option maxRecDepth 100000 in
theorem kJ0_coder_7d493_b14 {p : Program} {l : Launch} {e : Env} {s : State} {m : MethodId} {args : Array Value} {below : List Frame} {meth : Method} {c : Code} {G : qG} {A : Nat → Prop} {Qf : State → Prop} {R : va_W}  {k : Int32 → Prop} (hx : p.tables.exec = Jvm.exec) (hb : c.code = cJ0_coder_7d493) (hml : c.maxLocals = 1) (hown : s.vm.findClass RJ0 = some m.cls) (hts : ∀ w ∈ wsJ0_coder_7d493, w.before args s = true) (hA : ∀ q : Nat, s.heap.size ≤ q → A q) (hKn : qKn G A s s.heap) (hret : ∀ (r : Int32)  (H : Heap) (locs : List Loc) (ls : Array Slot) (pc : Nat), k r  → narrow .byte (.int r) = .int r → va_P G.1 vwCl (R) H → va_D A (R) → va_S A s.heap H locs → decode cJ0_coder_7d493 pc = .ok (.ireturn, 1) → W p l e rmJ0_coder_7d493 s m args below meth c H locs 0 0 Qf (F0 m pc ls [.int r])) : ∀  (z0 : Int32) (H : Heap) (locs : List Loc) (ls : Array Slot), wJ0_coder_7d493_b14 k z0 → va_P G.1 vwCl (R) H → va_D A (R) → va_S A s.heap H locs → lv_has ls 1 [] → W p l e rmJ0_coder_7d493 s m args below meth c H locs 0 0 Qf (F0 m 14 ls [.int z0]) := by
  intro z0 H locs ls h hP hD hS hl
  unfold wJ0_coder_7d493_b14 at h
  obtain ⟨hn1, h⟩ := h
  exact hret _ _ _ _ _ h hn1 hP hD hS dJ0_coder_7d493_14
set_option maxHeartbeats 4000000 in
set_option maxRecDepth 100000 in
theorem mJ0_coder_7d493 (l : Launch) (G : qG) (k : Int32 → Prop) (R : va_W)  (sz : Nat) (i0 : Nat) : Met l yJ0_coder_7d493 wsJ0_coder_7d493 rmJ0_coder_7d493 (qPc G [.ref (G.2.2.2.1 (i0))] (R) sz (wJ0_coder_7d493 k  i0)) (qQi G (R) sz (fun (r : Int32) (u : Unit) => k r ) (fun (u : Unit) => R)) 0 0 (va_A (R) sz) := by
  refine Met.ofW (cc := cJ0_coder_7d493) (maxL := 1) (ret := (some .byte)) (by decide) rfl ?_
  intro p e s m args below meth c s₁ B hml hv
  obtain ⟨rfl, hsz, hP, hD0, hKn0, h⟩ := hv
  have hx := B.exec
  have hb := B.bytes
  have hr := B.returns
  have hts := atoms_spec (ws := wsJ0_coder_7d493) B.pre
  have hown : s.vm.findClass RJ0 = some m.cls := findClass_of_methodNamed B.named
  have hlocks := B.notSynchronized
  subst hsz
  have hD := hD0.self (sz := s.heap.size)
  generalize hAe : va_A (R) s.heap.size = A at hD hKn0 ⊢
  have hA : ∀ q : Nat, s.heap.size ≤ q → A q := fun q h => by rw [← hAe]; exact Or.inr h
  have hKn : qKn G A s s.heap := hKn0
  have hS : va_S A s.heap s.heap [] := va_S.rf
  have hret : ∀ (r : Int32)  (H : Heap) (locs : List Loc) (ls : Array Slot) (pc : Nat), k r  → narrow .byte (.int r) = .int r → va_P G.1 vwCl (R) H → va_D A (R) → va_S A s.heap H locs → decode cJ0_coder_7d493 pc = .ok (.ireturn, 1) → W p l e rmJ0_coder_7d493 s m #[.ref (G.2.2.2.1 (i0))] below meth c H locs 0 0 (MQ below (qQi G (R) s.heap.size (fun (r : Int32) (u : Unit) => k r ) (fun (u : Unit) => R)) #[.ref (G.2.2.2.1 (i0))] s 0 0 A) (F0 m pc ls [.int r]) := fun r  H locs ls pc hk hn hP hD hS hd => W.zret hx hb hr hn (fun t ht hW => q_ri (u := (() : Unit)) hAe hk hP hD hS ht) hS.2.2 hd
  have hl := lv_entry ([.ref (G.2.2.2.1 (i0))]) (n := 1) (Nat.le_of_ble_eq_true rfl)
  rw [lg_entry_eq]
  generalize (lg_sl ([.ref (G.2.2.2.1 (i0))]) ++ List.replicate (1 - (lg_sl ([.ref (G.2.2.2.1 (i0))])).length) Slot.unset).toArray = ls at hl ⊢
  have hl : lv_has ls 1 [(0, .ref (G.2.2.2.1 (i0)))] := hl
  unfold wJ0_coder_7d493 at h
  show W p l e rmJ0_coder_7d493 s m #[.ref (G.2.2.2.1 (i0))] below meth c s.heap [] 0 0 _ _
  refine va_gets (C := "java/lang/String") (n := "COMPACT_STRINGS") (d := "Z") (ref := "java/lang/String") (v := .int 1) hx hb (hKn.2.2.1 _ (List.mem_of_getElem? (i := 3) rfl)) hS hown (hts _ lJ0_coder_7d493_f38) (fun _ h9 => h9) dJ0_coder_7d493_0 ?_
  refine lv_if_eq (tgt := 13) hx hb dJ0_coder_7d493_3 (by decide) (fun c1 => ?_) (fun c1 => ?_)
  · have h := h.1 c1
    refine lv_iconst (v := (1 : Int32)) hx hb dJ0_coder_7d493_13 (by decide) ?_
    exact kJ0_coder_7d493_b14 hx hb hml hown hts hA hKn hret (1 : Int32) _ _ _ h hP hD hS (lv_sub hl [] rfl)
  · have h := h.2 c1
    refine lv_aload_n hx hb dJ0_coder_7d493_6 rfl (lv_at hl 0 rfl) ?_
    obtain ⟨hi, h⟩ := h
    refine vk_getf hx hb (hKn.2.2.2.2.2.1.1 _ hi).2.1 hS hown (hts _ lJ0_coder_7d493_f15) (fun _ h9 => h9) dJ0_coder_7d493_7 ?_
    refine lv_goto (tgt := 14) hx hb dJ0_coder_7d493_10 (by decide) ?_
    exact kJ0_coder_7d493_b14 hx hb hml hown hts hA hKn hret (0 : Int32) _ _ _ h hP hD hS (lv_sub hl [] rfl)
abbrev rmJ0_length_8abf5 : Room := { frames := 1, cells := 0, slots := 0, locals := 20 }
theorem lJ0_length_8abf5_f9 : Cond.fieldLink RJ0 9 "java/lang/String" "value" "[B" ∈ wsJ0_length_8abf5 := by decide +kernel
set_option maxHeartbeats 4000000 in
set_option maxRecDepth 100000 in
theorem mJ0_length_8abf5 (l : Launch) (G : qG) (k : Int32 → Prop) (R : va_W)  (sz : Nat) (i0 : Nat) : Met l yJ0_length_8abf5 wsJ0_length_8abf5 rmJ0_length_8abf5 (qPc G [.ref (G.2.2.2.1 (i0))] (R) sz (wJ0_length_8abf5 k  i0)) (qQi G (R) sz (fun (r : Int32) (u : Unit) => k r ) (fun (u : Unit) => R)) 0 0 (va_A (R) sz) := by
  refine Met.ofW (cc := cJ0_length_8abf5) (maxL := 1) (ret := (some .int)) (by decide) rfl ?_
  intro p e s m args below meth c s₁ B hml hv
  obtain ⟨rfl, hsz, hP, hD0, hKn0, h⟩ := hv
  have hx := B.exec
  have hb := B.bytes
  have hr := B.returns
  have hts := atoms_spec (ws := wsJ0_length_8abf5) B.pre
  have hown : s.vm.findClass RJ0 = some m.cls := findClass_of_methodNamed B.named
  have hlocks := B.notSynchronized
  subst hsz
  have hD := hD0.self (sz := s.heap.size)
  generalize hAe : va_A (R) s.heap.size = A at hD hKn0 ⊢
  have hA : ∀ q : Nat, s.heap.size ≤ q → A q := fun q h => by rw [← hAe]; exact Or.inr h
  have hKn : qKn G A s s.heap := hKn0
  have hS : va_S A s.heap s.heap [] := va_S.rf
  have hret : ∀ (r : Int32)  (H : Heap) (locs : List Loc) (ls : Array Slot) (pc : Nat), k r  → va_P G.1 vwCl (R) H → va_D A (R) → va_S A s.heap H locs → decode cJ0_length_8abf5 pc = .ok (.ireturn, 1) → W p l e rmJ0_length_8abf5 s m #[.ref (G.2.2.2.1 (i0))] below meth c H locs 0 0 (MQ below (qQi G (R) s.heap.size (fun (r : Int32) (u : Unit) => k r ) (fun (u : Unit) => R)) #[.ref (G.2.2.2.1 (i0))] s 0 0 A) (F0 m pc ls [.int r]) := fun r  H locs ls pc hk hP hD hS hd => W.iret hx hb hr (fun t ht hW => q_ri (u := (() : Unit)) hAe hk hP hD hS ht) hS.2.2 hd
  have hl := lv_entry ([.ref (G.2.2.2.1 (i0))]) (n := 1) (Nat.le_of_ble_eq_true rfl)
  rw [lg_entry_eq]
  generalize (lg_sl ([.ref (G.2.2.2.1 (i0))]) ++ List.replicate (1 - (lg_sl ([.ref (G.2.2.2.1 (i0))])).length) Slot.unset).toArray = ls at hl ⊢
  have hl : lv_has ls 1 [(0, .ref (G.2.2.2.1 (i0)))] := hl
  unfold wJ0_length_8abf5 at h
  show W p l e rmJ0_length_8abf5 s m #[.ref (G.2.2.2.1 (i0))] below meth c s.heap [] 0 0 _ _
  refine lv_aload_n hx hb dJ0_length_8abf5_0 rfl (lv_at hl 0 rfl) ?_
  obtain ⟨hi, h⟩ := h
  refine vk_getf hx hb (hKn.2.2.2.2.2.1.1 _ hi).2.2.1 hS hown (hts _ lJ0_length_8abf5_f9) (fun _ h9 => h9) dJ0_length_8abf5_1 ?_
  obtain ⟨hi, h⟩ := h
  refine va_tlen (v := nI (qtl.getD (i0) 0)) hx hb (hKn.2.2.2.2.2.1.1 _ hi).2.2.2 hS rfl dJ0_length_8abf5_4 ?_
  refine lv_aload_n hx hb dJ0_length_8abf5_5 rfl (lv_at hl 0 rfl) ?_
  obtain ⟨hi, h⟩ := h
  refine qc_ki (As := []) (rest := [.int (nI (qtl.getD (i0) 0))]) ⟨hx, hb, hml, hown, hts⟩ (mJ0_coder_7d493 l G _ _ _ (i0)) (cwV 0 hts gJ0_length_8abf5_J0_coder_7d493 rfl rfl rfl (by decide +kernel) ⟨Nat.le_of_ble_eq_true rfl, Nat.le_of_ble_eq_true rfl⟩) hP hD hS hA hKn hi h rfl hl.1 rfl (Nat.le_of_ble_eq_true rfl) dJ0_length_8abf5_6 ⟨Nat.zero_le _, Nat.zero_le _⟩ (fun r1 _ H locs h hP hD hS => ?_)
  have hP : va_P G.1 vwCl (R) H := hP
  have hD : va_D A (R) := hD
  refine lv_ishr hx hb dJ0_length_8abf5_9 ?_
  exact hret _ _ _ _ _ h hP hD hS dJ0_length_8abf5_10
abbrev rmJ1_canEncode_9a6ad : Room := { frames := 0, cells := 0, slots := 0, locals := 0 }
set_option maxHeartbeats 4000000 in
set_option maxRecDepth 100000 in
theorem kJ1_canEncode_9a6ad_b16 {p : Program} {l : Launch} {e : Env} {s : State} {m : MethodId} {args : Array Value} {below : List Frame} {meth : Method} {c : Code} {G : qG} {A : Nat → Prop} {Qf : State → Prop} {R : va_W}  {k : Int32 → Prop} (hx : p.tables.exec = Jvm.exec) (hb : c.code = cJ1_canEncode_9a6ad) (hml : c.maxLocals = 1) (hown : s.vm.findClass RJ1 = some m.cls) (hts : ∀ w ∈ wsJ1_canEncode_9a6ad, w.before args s = true) (hA : ∀ q : Nat, s.heap.size ≤ q → A q) (hKn : qKn G A s s.heap) (hret : ∀ (r : Int32)  (H : Heap) (locs : List Loc) (ls : Array Slot) (pc : Nat), k r  → narrow .boolean (.int r) = .int r → va_P G.1 vwCl (R) H → va_D A (R) → va_S A s.heap H locs → decode cJ1_canEncode_9a6ad pc = .ok (.ireturn, 1) → W p l e rmJ1_canEncode_9a6ad s m args below meth c H locs 0 0 Qf (F0 m pc ls [.int r])) : ∀  (z0 : Int32) (H : Heap) (locs : List Loc) (ls : Array Slot), wJ1_canEncode_9a6ad_b16 k z0 → va_P G.1 vwCl (R) H → va_D A (R) → va_S A s.heap H locs → lv_has ls 1 [] → W p l e rmJ1_canEncode_9a6ad s m args below meth c H locs 0 0 Qf (F0 m 16 ls [.int z0]) := by
  intro z0 H locs ls h hP hD hS hl
  unfold wJ1_canEncode_9a6ad_b16 at h
  obtain ⟨hn1, h⟩ := h
  exact hret _ _ _ _ _ h hn1 hP hD hS dJ1_canEncode_9a6ad_16
set_option maxHeartbeats 4000000 in
set_option maxRecDepth 100000 in
theorem kJ1_canEncode_9a6ad_b15 {p : Program} {l : Launch} {e : Env} {s : State} {m : MethodId} {args : Array Value} {below : List Frame} {meth : Method} {c : Code} {G : qG} {A : Nat → Prop} {Qf : State → Prop} {R : va_W}  {k : Int32 → Prop} (hx : p.tables.exec = Jvm.exec) (hb : c.code = cJ1_canEncode_9a6ad) (hml : c.maxLocals = 1) (hown : s.vm.findClass RJ1 = some m.cls) (hts : ∀ w ∈ wsJ1_canEncode_9a6ad, w.before args s = true) (hA : ∀ q : Nat, s.heap.size ≤ q → A q) (hKn : qKn G A s s.heap) (hret : ∀ (r : Int32)  (H : Heap) (locs : List Loc) (ls : Array Slot) (pc : Nat), k r  → narrow .boolean (.int r) = .int r → va_P G.1 vwCl (R) H → va_D A (R) → va_S A s.heap H locs → decode cJ1_canEncode_9a6ad pc = .ok (.ireturn, 1) → W p l e rmJ1_canEncode_9a6ad s m args below meth c H locs 0 0 Qf (F0 m pc ls [.int r])) : ∀  (H : Heap) (locs : List Loc) (ls : Array Slot), wJ1_canEncode_9a6ad_b15 k  → va_P G.1 vwCl (R) H → va_D A (R) → va_S A s.heap H locs → lv_has ls 1 [] → W p l e rmJ1_canEncode_9a6ad s m args below meth c H locs 0 0 Qf (F0 m 15 ls []) := by
  intro  H locs ls h hP hD hS hl
  unfold wJ1_canEncode_9a6ad_b15 at h
  refine lv_iconst (v := (0 : Int32)) hx hb dJ1_canEncode_9a6ad_15 (by decide) ?_
  exact kJ1_canEncode_9a6ad_b16 hx hb hml hown hts hA hKn hret (0 : Int32) _ _ _ h hP hD hS (lv_sub hl [] rfl)
set_option maxHeartbeats 4000000 in
set_option maxRecDepth 100000 in
theorem mJ1_canEncode_9a6ad (l : Launch) (G : qG) (k : Int32 → Prop) (R : va_W)  (sz : Nat) (p0 : Int32) : Met l yJ1_canEncode_9a6ad wsJ1_canEncode_9a6ad rmJ1_canEncode_9a6ad (qPc G [.int p0] (R) sz (wJ1_canEncode_9a6ad k  p0)) (qQi G (R) sz (fun (r : Int32) (u : Unit) => k r ) (fun (u : Unit) => R)) 0 0 (va_A (R) sz) := by
  refine Met.ofW (cc := cJ1_canEncode_9a6ad) (maxL := 1) (ret := (some .boolean)) (by decide) rfl ?_
  intro p e s m args below meth c s₁ B hml hv
  obtain ⟨rfl, hsz, hP, hD0, hKn0, h⟩ := hv
  have hx := B.exec
  have hb := B.bytes
  have hr := B.returns
  have hts := atoms_spec (ws := wsJ1_canEncode_9a6ad) B.pre
  have hown : s.vm.findClass RJ1 = some m.cls := findClass_of_methodNamed B.named
  have hlocks := B.notSynchronized
  subst hsz
  have hD := hD0.self (sz := s.heap.size)
  generalize hAe : va_A (R) s.heap.size = A at hD hKn0 ⊢
  have hA : ∀ q : Nat, s.heap.size ≤ q → A q := fun q h => by rw [← hAe]; exact Or.inr h
  have hKn : qKn G A s s.heap := hKn0
  have hS : va_S A s.heap s.heap [] := va_S.rf
  have hret : ∀ (r : Int32)  (H : Heap) (locs : List Loc) (ls : Array Slot) (pc : Nat), k r  → narrow .boolean (.int r) = .int r → va_P G.1 vwCl (R) H → va_D A (R) → va_S A s.heap H locs → decode cJ1_canEncode_9a6ad pc = .ok (.ireturn, 1) → W p l e rmJ1_canEncode_9a6ad s m #[.int p0] below meth c H locs 0 0 (MQ below (qQi G (R) s.heap.size (fun (r : Int32) (u : Unit) => k r ) (fun (u : Unit) => R)) #[.int p0] s 0 0 A) (F0 m pc ls [.int r]) := fun r  H locs ls pc hk hn hP hD hS hd => W.zret hx hb hr hn (fun t ht hW => q_ri (u := (() : Unit)) hAe hk hP hD hS ht) hS.2.2 hd
  have hl := lv_entry ([.int p0]) (n := 1) (Nat.le_of_ble_eq_true rfl)
  rw [lg_entry_eq]
  generalize (lg_sl ([.int p0]) ++ List.replicate (1 - (lg_sl ([.int p0])).length) Slot.unset).toArray = ls at hl ⊢
  have hl : lv_has ls 1 [(0, .int p0)] := hl
  unfold wJ1_canEncode_9a6ad at h
  show W p l e rmJ1_canEncode_9a6ad s m #[.int p0] below meth c s.heap [] 0 0 _ _
  refine lv_iload_n hx hb dJ1_canEncode_9a6ad_0 rfl (lv_at hl 0 rfl) ?_
  refine lv_if_lt (tgt := 15) hx hb dJ1_canEncode_9a6ad_1 (by decide) (fun c1 => ?_) (fun c1 => ?_)
  · have h := h.1 c1
    exact kJ1_canEncode_9a6ad_b15 hx hb hml hown hts hA hKn hret  _ _ _ h hP hD hS (lv_sub hl [] rfl)
  · have h := h.2 c1
    refine lv_iload_n hx hb dJ1_canEncode_9a6ad_4 rfl (lv_at hl 0 rfl) ?_
    refine lv_sipush (v := (255 : Int32)) hx hb dJ1_canEncode_9a6ad_5 (by decide) ?_
    refine lv_icmp_gt (tgt := 15) hx hb dJ1_canEncode_9a6ad_8 (by decide) (fun c1 => ?_) (fun c1 => ?_)
    · have h := h.1 c1
      exact kJ1_canEncode_9a6ad_b15 hx hb hml hown hts hA hKn hret  _ _ _ h hP hD hS (lv_sub hl [] rfl)
    · have h := h.2 c1
      refine lv_iconst (v := (1 : Int32)) hx hb dJ1_canEncode_9a6ad_11 (by decide) ?_
      refine lv_goto (tgt := 16) hx hb dJ1_canEncode_9a6ad_12 (by decide) ?_
      exact kJ1_canEncode_9a6ad_b16 hx hb hml hown hts hA hKn hret (1 : Int32) _ _ _ h hP hD hS (lv_sub hl [] rfl)
abbrev rmJ1_indexOfChar_4cfef : Room := { frames := 0, cells := 0, slots := 0, locals := 0 }
set_option maxHeartbeats 4000000 in
set_option maxRecDepth 100000 in
theorem kJ1_indexOfChar_4cfef_b7 {p : Program} {l : Launch} {e : Env} {s : State} {m : MethodId} {args : Array Value} {below : List Frame} {meth : Method} {c : Code} {G : qG} {A : Nat → Prop} {Qf : State → Prop} {R : va_W}  {k : Int32 → Prop} (hx : p.tables.exec = Jvm.exec) (hb : c.code = cJ1_indexOfChar_4cfef) (hml : c.maxLocals = 6) (hown : s.vm.findClass RJ1 = some m.cls) (hts : ∀ w ∈ wsJ1_indexOfChar_4cfef, w.before args s = true) (hA : ∀ q : Nat, s.heap.size ≤ q → A q) (hKn : qKn G A s s.heap) (hret : ∀ (r : Int32)  (H : Heap) (locs : List Loc) (ls : Array Slot) (pc : Nat), k r  → va_P G.1 vwCl (R) H → va_D A (R) → va_S A s.heap H locs → decode cJ1_indexOfChar_4cfef pc = .ok (.ireturn, 1) → W p l e rmJ1_indexOfChar_4cfef s m args below meth c H locs 0 0 Qf (F0 m pc ls [.int r])) : ∀ (n : Nat)  (x0 : Nat) (x3 : Int32) (x4 : Int32) (x5 : Int32) (H : Heap) (locs : List Loc) (ls : Array Slot), wJ1_indexOfChar_4cfef_b7 k n x0 x3 x4 x5 → va_P G.1 vwCl (R) H → va_D A (R) → va_S A s.heap H locs → lv_has ls 6 [(0, .ref (G.2.2.2.2 (x0))), (3, .int x3), (4, .int x4), (5, .int x5)] → W p l e rmJ1_indexOfChar_4cfef s m args below meth c H locs 0 0 Qf (F0 m 7 ls []) := by
  intro n
  induction n with
  | zero => intros; rename_i h _ _ _ _; exact h.elim
  | succ n ih =>
    intro x0 x3 x4 x5 H locs ls h hP hD hS hl
    unfold wJ1_indexOfChar_4cfef_b7 at h
    refine lv_iload hx hb dJ1_indexOfChar_4cfef_7 (lv_at hl 3 rfl) ?_
    refine lv_iload_n hx hb dJ1_indexOfChar_4cfef_9 rfl (lv_at hl 1 rfl) ?_
    refine lv_icmp_ge (tgt := 31) hx hb dJ1_indexOfChar_4cfef_10 (by decide) (fun c1 => ?_) (fun c1 => ?_)
    · have h := h.1 c1
      refine lv_iconst (v := (-1 : Int32)) hx hb dJ1_indexOfChar_4cfef_31 (by decide) ?_
      exact hret _ _ _ _ _ h hP hD hS dJ1_indexOfChar_4cfef_32
    · have h := h.2 c1
      refine lv_aload_n hx hb dJ1_indexOfChar_4cfef_13 rfl (lv_at hl 0 rfl) ?_
      refine lv_iload hx hb dJ1_indexOfChar_4cfef_14 (lv_at hl 3 rfl) ?_
      obtain ⟨hi, hin, h⟩ := h
      refine va_tb (v := .int ((qtx.getD (x0) []).getD (Int32.toNatClampNeg x5) 0)) hx hb (hKn.2.2.2.2.2.1.1 _ hi).2.2.2 hS hin rfl dJ1_indexOfChar_4cfef_16 ?_
      refine lv_iload hx hb dJ1_indexOfChar_4cfef_17 (lv_at hl 2 rfl) ?_
      refine lv_icmp_ne (tgt := 25) hx hb dJ1_indexOfChar_4cfef_19 (by decide) (fun c1 => ?_) (fun c1 => ?_)
      · have h := h.1 c1
        obtain ⟨y1, ey1⟩ : ∃ z : Int32, z = x5 + (1 : Int32) := ⟨_, rfl⟩
        have h := h y1 ey1
        refine lv_iinc (v := y1) (lv' := [(5, .int y1), (0, .ref (G.2.2.2.2 (x0))), (3, .int x3), (4, .int x4)]) hx hb dJ1_indexOfChar_4cfef_25 hl (k := 3) rfl (by rw [ey1]; rfl) (by decide) rfl (fun ls hl => ?_)
        refine lv_goto (tgt := 7) hx hb dJ1_indexOfChar_4cfef_28 (by decide) ?_
        exact ih x0 x3 x4 y1 _ _ _ h hP hD hS (lv_sub hl [1, 2, 3, 0] rfl)
      · have h := h.2 c1
        refine lv_iload hx hb dJ1_indexOfChar_4cfef_22 (lv_at hl 3 rfl) ?_
        exact hret _ _ _ _ _ h hP hD hS dJ1_indexOfChar_4cfef_24
set_option maxHeartbeats 4000000 in
set_option maxRecDepth 100000 in
theorem mJ1_indexOfChar_4cfef (l : Launch) (G : qG) (k : Int32 → Prop) (R : va_W)  (sz : Nat) (i0 : Nat) (p1 : Int32) (p2 : Int32) (p3 : Int32) : Met l yJ1_indexOfChar_4cfef wsJ1_indexOfChar_4cfef rmJ1_indexOfChar_4cfef (qPc G [.ref (G.2.2.2.2 (i0)), .int p1, .int p2, .int p3] (R) sz (wJ1_indexOfChar_4cfef k  i0 p1 p2 p3)) (qQi G (R) sz (fun (r : Int32) (u : Unit) => k r ) (fun (u : Unit) => R)) 0 0 (va_A (R) sz) := by
  refine Met.ofW (cc := cJ1_indexOfChar_4cfef) (maxL := 6) (ret := (some .int)) (by decide) rfl ?_
  intro p e s m args below meth c s₁ B hml hv
  obtain ⟨rfl, hsz, hP, hD0, hKn0, h⟩ := hv
  have hx := B.exec
  have hb := B.bytes
  have hr := B.returns
  have hts := atoms_spec (ws := wsJ1_indexOfChar_4cfef) B.pre
  have hown : s.vm.findClass RJ1 = some m.cls := findClass_of_methodNamed B.named
  have hlocks := B.notSynchronized
  subst hsz
  have hD := hD0.self (sz := s.heap.size)
  generalize hAe : va_A (R) s.heap.size = A at hD hKn0 ⊢
  have hA : ∀ q : Nat, s.heap.size ≤ q → A q := fun q h => by rw [← hAe]; exact Or.inr h
  have hKn : qKn G A s s.heap := hKn0
  have hS : va_S A s.heap s.heap [] := va_S.rf
  have hret : ∀ (r : Int32)  (H : Heap) (locs : List Loc) (ls : Array Slot) (pc : Nat), k r  → va_P G.1 vwCl (R) H → va_D A (R) → va_S A s.heap H locs → decode cJ1_indexOfChar_4cfef pc = .ok (.ireturn, 1) → W p l e rmJ1_indexOfChar_4cfef s m #[.ref (G.2.2.2.2 (i0)), .int p1, .int p2, .int p3] below meth c H locs 0 0 (MQ below (qQi G (R) s.heap.size (fun (r : Int32) (u : Unit) => k r ) (fun (u : Unit) => R)) #[.ref (G.2.2.2.2 (i0)), .int p1, .int p2, .int p3] s 0 0 A) (F0 m pc ls [.int r]) := fun r  H locs ls pc hk hP hD hS hd => W.iret hx hb hr (fun t ht hW => q_ri (u := (() : Unit)) hAe hk hP hD hS ht) hS.2.2 hd
  have hl := lv_entry ([.ref (G.2.2.2.2 (i0)), .int p1, .int p2, .int p3]) (n := 6) (Nat.le_of_ble_eq_true rfl)
  rw [lg_entry_eq]
  generalize (lg_sl ([.ref (G.2.2.2.2 (i0)), .int p1, .int p2, .int p3]) ++ List.replicate (6 - (lg_sl ([.ref (G.2.2.2.2 (i0)), .int p1, .int p2, .int p3])).length) Slot.unset).toArray = ls at hl ⊢
  have hl : lv_has ls 6 [(0, .ref (G.2.2.2.2 (i0))), (1, .int p1), (2, .int p2), (3, .int p3)] := hl
  unfold wJ1_indexOfChar_4cfef at h
  show W p l e rmJ1_indexOfChar_4cfef s m #[.ref (G.2.2.2.2 (i0)), .int p1, .int p2, .int p3] below meth c s.heap [] 0 0 _ _
  refine lv_iload_n hx hb dJ1_indexOfChar_4cfef_0 rfl (lv_at hl 1 rfl) ?_
  refine lv_i2b hx hb dJ1_indexOfChar_4cfef_1 rfl ?_
  refine lv_topi (fun y2 ey2 => ?_)
  have h := h y2 ey2
  refine lv_istore (lv' := [(4, .int y2), (0, .ref (G.2.2.2.2 (i0))), (1, .int p1), (2, .int p2), (3, .int p3)]) hx hb dJ1_indexOfChar_4cfef_2 hl (by decide) rfl (fun ls hl => ?_)
  refine lv_iload_n hx hb dJ1_indexOfChar_4cfef_4 rfl (lv_at hl 3 rfl) ?_
  refine lv_istore (lv' := [(5, .int p2), (4, .int y2), (0, .ref (G.2.2.2.2 (i0))), (1, .int p1), (2, .int p2), (3, .int p3)]) hx hb dJ1_indexOfChar_4cfef_5 hl (by decide) rfl (fun ls hl => ?_)
  obtain ⟨n3, h⟩ := h
  exact kJ1_indexOfChar_4cfef_b7 hx hb hml hown hts hA hKn hret n3 i0 p3 y2 p2 _ _ _ h hP hD hS (lv_sub hl [2, 5, 1, 0] rfl)
abbrev rmJ1_indexOf_4cfef : Room := { frames := 1, cells := 0, slots := 0, locals := 25 }
theorem lJ1_indexOf_4cfef_cmax : Cond.code Lib.Math.max.name Lib.Math.max.code 2 (some .int) ∈ wsJ1_indexOf_4cfef := by decide +kernel
theorem lJ1_indexOf_4cfef_cmin : Cond.code Lib.Math.min.name Lib.Math.min.code 2 (some .int) ∈ wsJ1_indexOf_4cfef := by decide +kernel
theorem lJ1_indexOf_4cfef_im : Cond.initialized "java/lang/Math" ∈ wsJ1_indexOf_4cfef := by decide +kernel
theorem lJ1_indexOf_4cfef_m38 : Cond.methodLink RJ1 38 Lib.Math.min.name ∈ wsJ1_indexOf_4cfef := by decide +kernel
theorem lJ1_indexOf_4cfef_m92 : Cond.methodLink RJ1 92 Lib.Math.max.name ∈ wsJ1_indexOf_4cfef := by decide +kernel
theorem lJ1_indexOf_4cfef_smax : Cond.static Lib.Math.max.name ∈ wsJ1_indexOf_4cfef := by decide +kernel
theorem lJ1_indexOf_4cfef_smin : Cond.static Lib.Math.min.name ∈ wsJ1_indexOf_4cfef := by decide +kernel
set_option maxHeartbeats 4000000 in
set_option maxRecDepth 100000 in
theorem mJ1_indexOf_4cfef (l : Launch) (G : qG) (k : Int32 → Prop) (R : va_W)  (sz : Nat) (i0 : Nat) (p1 : Int32) (p2 : Int32) (p3 : Int32) : Met l yJ1_indexOf_4cfef wsJ1_indexOf_4cfef rmJ1_indexOf_4cfef (qPc G [.ref (G.2.2.2.2 (i0)), .int p1, .int p2, .int p3] (R) sz (wJ1_indexOf_4cfef k  i0 p1 p2 p3)) (qQi G (R) sz (fun (r : Int32) (u : Unit) => k r ) (fun (u : Unit) => R)) 0 0 (va_A (R) sz) := by
  refine Met.ofW (cc := cJ1_indexOf_4cfef) (maxL := 4) (ret := (some .int)) (by decide) rfl ?_
  intro p e s m args below meth c s₁ B hml hv
  obtain ⟨rfl, hsz, hP, hD0, hKn0, h⟩ := hv
  have hx := B.exec
  have hb := B.bytes
  have hr := B.returns
  have hts := atoms_spec (ws := wsJ1_indexOf_4cfef) B.pre
  have hown : s.vm.findClass RJ1 = some m.cls := findClass_of_methodNamed B.named
  have hlocks := B.notSynchronized
  subst hsz
  have hD := hD0.self (sz := s.heap.size)
  generalize hAe : va_A (R) s.heap.size = A at hD hKn0 ⊢
  have hA : ∀ q : Nat, s.heap.size ≤ q → A q := fun q h => by rw [← hAe]; exact Or.inr h
  have hKn : qKn G A s s.heap := hKn0
  have hS : va_S A s.heap s.heap [] := va_S.rf
  have hret : ∀ (r : Int32)  (H : Heap) (locs : List Loc) (ls : Array Slot) (pc : Nat), k r  → va_P G.1 vwCl (R) H → va_D A (R) → va_S A s.heap H locs → decode cJ1_indexOf_4cfef pc = .ok (.ireturn, 1) → W p l e rmJ1_indexOf_4cfef s m #[.ref (G.2.2.2.2 (i0)), .int p1, .int p2, .int p3] below meth c H locs 0 0 (MQ below (qQi G (R) s.heap.size (fun (r : Int32) (u : Unit) => k r ) (fun (u : Unit) => R)) #[.ref (G.2.2.2.2 (i0)), .int p1, .int p2, .int p3] s 0 0 A) (F0 m pc ls [.int r]) := fun r  H locs ls pc hk hP hD hS hd => W.iret hx hb hr (fun t ht hW => q_ri (u := (() : Unit)) hAe hk hP hD hS ht) hS.2.2 hd
  have hl := lv_entry ([.ref (G.2.2.2.2 (i0)), .int p1, .int p2, .int p3]) (n := 4) (Nat.le_of_ble_eq_true rfl)
  rw [lg_entry_eq]
  generalize (lg_sl ([.ref (G.2.2.2.2 (i0)), .int p1, .int p2, .int p3]) ++ List.replicate (4 - (lg_sl ([.ref (G.2.2.2.2 (i0)), .int p1, .int p2, .int p3])).length) Slot.unset).toArray = ls at hl ⊢
  have hl : lv_has ls 4 [(0, .ref (G.2.2.2.2 (i0))), (1, .int p1), (2, .int p2), (3, .int p3)] := hl
  unfold wJ1_indexOf_4cfef at h
  show W p l e rmJ1_indexOf_4cfef s m #[.ref (G.2.2.2.2 (i0)), .int p1, .int p2, .int p3] below meth c s.heap [] 0 0 _ _
  refine lv_iload_n hx hb dJ1_indexOf_4cfef_0 rfl (lv_at hl 1 rfl) ?_
  refine qc_si (As := [.int p1]) (rest := []) ⟨hx, hb, hml, hown, hts⟩ (mJ1_canEncode_9a6ad l G _ _ _ (p1)) (cwS 1 hts gJ1_indexOf_4cfef_J1_canEncode_9a6ad rfl rfl rfl (by decide +kernel) ⟨Nat.le_of_ble_eq_true rfl, Nat.le_of_ble_eq_true rfl⟩) hP hD hS hA hKn h rfl hl.1 rfl (Nat.le_of_ble_eq_true rfl) dJ1_indexOf_4cfef_1 ⟨Nat.zero_le _, Nat.zero_le _⟩ (fun r1 _ H locs h hP hD hS => ?_)
  have hP : va_P G.1 vwCl (R) H := hP
  have hD : va_D A (R) := hD
  refine lv_if_ne (tgt := 9) hx hb dJ1_indexOf_4cfef_4 (by decide) (fun c1 => ?_) (fun c1 => ?_)
  · have h := h.1 c1
    refine lv_iload_n hx hb dJ1_indexOf_4cfef_9 rfl (lv_at hl 2 rfl) ?_
    refine lv_iconst (v := (0 : Int32)) hx hb dJ1_indexOf_4cfef_10 (by decide) ?_
    refine va_mmax hx hb (hml.trans hl.1.symm) hown (hts _ lJ1_indexOf_4cfef_m92) (hts _ lJ1_indexOf_4cfef_smax) (hts _ lJ1_indexOf_4cfef_im) (hts _ lJ1_indexOf_4cfef_cmax) (Nat.le_of_ble_eq_true rfl) (Nat.le_of_ble_eq_true rfl) (Nat.zero_le _) (Nat.zero_le _) dJ1_indexOf_4cfef_11 ?_
    refine lv_topi (fun y2 ey2 => ?_)
    have h := h y2 ey2
    refine lv_istore_n (lv' := [(2, .int y2), (0, .ref (G.2.2.2.2 (i0))), (1, .int p1), (3, .int p3)]) hx hb dJ1_indexOf_4cfef_14 rfl hl (by decide) rfl (fun ls hl => ?_)
    refine lv_iload_n hx hb dJ1_indexOf_4cfef_15 rfl (lv_at hl 3 rfl) ?_
    refine lv_aload_n hx hb dJ1_indexOf_4cfef_16 rfl (lv_at hl 1 rfl) ?_
    obtain ⟨hi, h⟩ := h
    refine va_tlen (v := nI (qtl.getD (i0) 0)) hx hb (hKn.2.2.2.2.2.1.1 _ hi).2.2.2 hS rfl dJ1_indexOf_4cfef_17 ?_
    refine va_mmin hx hb (hml.trans hl.1.symm) hown (hts _ lJ1_indexOf_4cfef_m38) (hts _ lJ1_indexOf_4cfef_smin) (hts _ lJ1_indexOf_4cfef_im) (hts _ lJ1_indexOf_4cfef_cmin) (Nat.le_of_ble_eq_true rfl) (Nat.le_of_ble_eq_true rfl) (Nat.zero_le _) (Nat.zero_le _) dJ1_indexOf_4cfef_18 ?_
    refine lv_topi (fun y3 ey3 => ?_)
    have h := h y3 ey3
    refine lv_istore_n (lv' := [(3, .int y3), (2, .int y2), (0, .ref (G.2.2.2.2 (i0))), (1, .int p1)]) hx hb dJ1_indexOf_4cfef_21 rfl hl (by decide) rfl (fun ls hl => ?_)
    refine lv_iload_n hx hb dJ1_indexOf_4cfef_22 rfl (lv_at hl 1 rfl) ?_
    refine lv_iload_n hx hb dJ1_indexOf_4cfef_23 rfl (lv_at hl 0 rfl) ?_
    refine lv_icmp_lt (tgt := 29) hx hb dJ1_indexOf_4cfef_24 (by decide) (fun c1 => ?_) (fun c1 => ?_)
    · have h := h.1 c1
      refine lv_aload_n hx hb dJ1_indexOf_4cfef_29 rfl (lv_at hl 2 rfl) ?_
      refine lv_iload_n hx hb dJ1_indexOf_4cfef_30 rfl (lv_at hl 3 rfl) ?_
      refine lv_iload_n hx hb dJ1_indexOf_4cfef_31 rfl (lv_at hl 1 rfl) ?_
      refine lv_iload_n hx hb dJ1_indexOf_4cfef_32 rfl (lv_at hl 0 rfl) ?_
      refine qc_si (As := [.ref (G.2.2.2.2 (i0)), .int p1, .int y2, .int y3]) (rest := []) ⟨hx, hb, hml, hown, hts⟩ (mJ1_indexOfChar_4cfef l G _ _ _ (i0) (p1) (y2) (y3)) (cwS 4 hts gJ1_indexOf_4cfef_J1_indexOfChar_4cfef rfl rfl rfl (by decide +kernel) ⟨Nat.le_of_ble_eq_true rfl, Nat.le_of_ble_eq_true rfl⟩) hP hD hS hA hKn h rfl hl.1 rfl (Nat.le_of_ble_eq_true rfl) dJ1_indexOf_4cfef_33 ⟨Nat.zero_le _, Nat.zero_le _⟩ (fun r4 _ H locs h hP hD hS => ?_)
      have hP : va_P G.1 vwCl (R) H := hP
      have hD : va_D A (R) := hD
      exact hret _ _ _ _ _ h hP hD hS dJ1_indexOf_4cfef_36
    · have h := h.2 c1
      refine lv_iconst (v := (-1 : Int32)) hx hb dJ1_indexOf_4cfef_27 (by decide) ?_
      exact hret _ _ _ _ _ h hP hD hS dJ1_indexOf_4cfef_28
  · have h := h.2 c1
    refine lv_iconst (v := (-1 : Int32)) hx hb dJ1_indexOf_4cfef_7 (by decide) ?_
    exact hret _ _ _ _ _ h hP hD hS dJ1_indexOf_4cfef_8
abbrev rmJ0_indexOf_7cf53 : Room := { frames := 2, cells := 0, slots := 0, locals := 48 }
theorem lJ0_indexOf_7cf53_f9 : Cond.fieldLink RJ0 9 "java/lang/String" "value" "[B" ∈ wsJ0_indexOf_7cf53 := by decide +kernel
set_option maxHeartbeats 4000000 in
set_option maxRecDepth 100000 in
theorem mJ0_indexOf_7cf53 (l : Launch) (G : qG) (k : Int32 → Prop) (R : va_W)  (sz : Nat) (i0 : Nat) (p0 : Int32) (p1 : Int32) : Met l yJ0_indexOf_7cf53 wsJ0_indexOf_7cf53 rmJ0_indexOf_7cf53 (qPc G [.ref (G.2.2.2.1 (i0)), .int p0, .int p1] (R) sz (wJ0_indexOf_7cf53 k  i0 p0 p1)) (qQi G (R) sz (fun (r : Int32) (u : Unit) => k r ) (fun (u : Unit) => R)) 0 0 (va_A (R) sz) := by
  refine Met.ofW (cc := cJ0_indexOf_7cf53) (maxL := 3) (ret := (some .int)) (by decide) rfl ?_
  intro p e s m args below meth c s₁ B hml hv
  obtain ⟨rfl, hsz, hP, hD0, hKn0, h⟩ := hv
  have hx := B.exec
  have hb := B.bytes
  have hr := B.returns
  have hts := atoms_spec (ws := wsJ0_indexOf_7cf53) B.pre
  have hown : s.vm.findClass RJ0 = some m.cls := findClass_of_methodNamed B.named
  have hlocks := B.notSynchronized
  subst hsz
  have hD := hD0.self (sz := s.heap.size)
  generalize hAe : va_A (R) s.heap.size = A at hD hKn0 ⊢
  have hA : ∀ q : Nat, s.heap.size ≤ q → A q := fun q h => by rw [← hAe]; exact Or.inr h
  have hKn : qKn G A s s.heap := hKn0
  have hS : va_S A s.heap s.heap [] := va_S.rf
  have hret : ∀ (r : Int32)  (H : Heap) (locs : List Loc) (ls : Array Slot) (pc : Nat), k r  → va_P G.1 vwCl (R) H → va_D A (R) → va_S A s.heap H locs → decode cJ0_indexOf_7cf53 pc = .ok (.ireturn, 1) → W p l e rmJ0_indexOf_7cf53 s m #[.ref (G.2.2.2.1 (i0)), .int p0, .int p1] below meth c H locs 0 0 (MQ below (qQi G (R) s.heap.size (fun (r : Int32) (u : Unit) => k r ) (fun (u : Unit) => R)) #[.ref (G.2.2.2.1 (i0)), .int p0, .int p1] s 0 0 A) (F0 m pc ls [.int r]) := fun r  H locs ls pc hk hP hD hS hd => W.iret hx hb hr (fun t ht hW => q_ri (u := (() : Unit)) hAe hk hP hD hS ht) hS.2.2 hd
  have hl := lv_entry ([.ref (G.2.2.2.1 (i0)), .int p0, .int p1]) (n := 3) (Nat.le_of_ble_eq_true rfl)
  rw [lg_entry_eq]
  generalize (lg_sl ([.ref (G.2.2.2.1 (i0)), .int p0, .int p1]) ++ List.replicate (3 - (lg_sl ([.ref (G.2.2.2.1 (i0)), .int p0, .int p1])).length) Slot.unset).toArray = ls at hl ⊢
  have hl : lv_has ls 3 [(0, .ref (G.2.2.2.1 (i0))), (1, .int p0), (2, .int p1)] := hl
  unfold wJ0_indexOf_7cf53 at h
  show W p l e rmJ0_indexOf_7cf53 s m #[.ref (G.2.2.2.1 (i0)), .int p0, .int p1] below meth c s.heap [] 0 0 _ _
  refine lv_aload_n hx hb dJ0_indexOf_7cf53_0 rfl (lv_at hl 0 rfl) ?_
  obtain ⟨hi, h⟩ := h
  refine qc_ki (As := []) (rest := []) ⟨hx, hb, hml, hown, hts⟩ (mJ0_isLatin1_aae02 l G _ _ _ (i0)) (cwV 0 hts gJ0_indexOf_7cf53_J0_isLatin1_aae02 rfl rfl rfl (by decide +kernel) ⟨Nat.le_of_ble_eq_true rfl, Nat.le_of_ble_eq_true rfl⟩) hP hD hS hA hKn hi h rfl hl.1 rfl (Nat.le_of_ble_eq_true rfl) dJ0_indexOf_7cf53_1 ⟨Nat.zero_le _, Nat.zero_le _⟩ (fun r1 _ H locs h hP hD hS => ?_)
  have hP : va_P G.1 vwCl (R) H := hP
  have hD : va_D A (R) := hD
  refine lv_if_eq (tgt := 23) hx hb dJ0_indexOf_7cf53_4 (by decide) (fun c1 => ?_) (fun c1 => ?_)
  · have h := h.1 c1
    exact h.elim
  · have h := h.2 c1
    refine lv_aload_n hx hb dJ0_indexOf_7cf53_7 rfl (lv_at hl 0 rfl) ?_
    obtain ⟨hi, h⟩ := h
    refine vk_getf hx hb (hKn.2.2.2.2.2.1.1 _ hi).2.2.1 hS hown (hts _ lJ0_indexOf_7cf53_f9) (fun _ h9 => h9) dJ0_indexOf_7cf53_8 ?_
    refine lv_iload_n hx hb dJ0_indexOf_7cf53_11 rfl (lv_at hl 1 rfl) ?_
    refine lv_iload_n hx hb dJ0_indexOf_7cf53_12 rfl (lv_at hl 2 rfl) ?_
    refine lv_aload_n hx hb dJ0_indexOf_7cf53_13 rfl (lv_at hl 0 rfl) ?_
    obtain ⟨hi, h⟩ := h
    refine qc_ki (As := []) (rest := [.int p1, .int p0, .ref (G.2.2.2.2 (i0))]) ⟨hx, hb, hml, hown, hts⟩ (mJ0_length_8abf5 l G _ _ _ (i0)) (cwV 0 hts gJ0_indexOf_7cf53_J0_length_8abf5 rfl rfl rfl (by decide +kernel) ⟨Nat.le_of_ble_eq_true rfl, Nat.le_of_ble_eq_true rfl⟩) hP hD hS hA hKn hi h rfl hl.1 rfl (Nat.le_of_ble_eq_true rfl) dJ0_indexOf_7cf53_14 ⟨Nat.zero_le _, Nat.zero_le _⟩ (fun r2 _ H locs h hP hD hS => ?_)
    have hP : va_P G.1 vwCl (R) H := hP
    have hD : va_D A (R) := hD
    refine qc_si (As := [.ref (G.2.2.2.2 (i0)), .int p0, .int p1, .int r2]) (rest := []) ⟨hx, hb, hml, hown, hts⟩ (mJ1_indexOf_4cfef l G _ _ _ (i0) (p0) (p1) (r2)) (va_cwS 4 hts gJ0_indexOf_7cf53_J1_indexOf_4cfef rfl rfl rfl (by decide +kernel) ⟨Nat.le_of_ble_eq_true rfl, Nat.le_of_ble_eq_true rfl⟩) hP hD hS hA hKn h rfl hl.1 rfl (Nat.le_of_ble_eq_true rfl) dJ0_indexOf_7cf53_17 ⟨Nat.zero_le _, Nat.zero_le _⟩ (fun r3 _ H locs h hP hD hS => ?_)
    have hP : va_P G.1 vwCl (R) H := hP
    have hD : va_D A (R) := hD
    refine lv_goto (tgt := 36) hx hb dJ0_indexOf_7cf53_20 (by decide) ?_
    exact hret _ _ _ _ _ h hP hD hS dJ0_indexOf_7cf53_36
abbrev rmJ0_indexOf_0f7a4 : Room := { frames := 3, cells := 0, slots := 0, locals := 70 }
set_option maxHeartbeats 4000000 in
set_option maxRecDepth 100000 in
theorem mJ0_indexOf_0f7a4 (l : Launch) (G : qG) (k : Int32 → Prop) (R : va_W)  (sz : Nat) (i0 : Nat) (p0 : Int32) : Met l yJ0_indexOf_0f7a4 wsJ0_indexOf_0f7a4 rmJ0_indexOf_0f7a4 (qPc G [.ref (G.2.2.2.1 (i0)), .int p0] (R) sz (wJ0_indexOf_0f7a4 k  i0 p0)) (qQi G (R) sz (fun (r : Int32) (u : Unit) => k r ) (fun (u : Unit) => R)) 0 0 (va_A (R) sz) := by
  refine Met.ofW (cc := cJ0_indexOf_0f7a4) (maxL := 2) (ret := (some .int)) (by decide) rfl ?_
  intro p e s m args below meth c s₁ B hml hv
  obtain ⟨rfl, hsz, hP, hD0, hKn0, h⟩ := hv
  have hx := B.exec
  have hb := B.bytes
  have hr := B.returns
  have hts := atoms_spec (ws := wsJ0_indexOf_0f7a4) B.pre
  have hown : s.vm.findClass RJ0 = some m.cls := findClass_of_methodNamed B.named
  have hlocks := B.notSynchronized
  subst hsz
  have hD := hD0.self (sz := s.heap.size)
  generalize hAe : va_A (R) s.heap.size = A at hD hKn0 ⊢
  have hA : ∀ q : Nat, s.heap.size ≤ q → A q := fun q h => by rw [← hAe]; exact Or.inr h
  have hKn : qKn G A s s.heap := hKn0
  have hS : va_S A s.heap s.heap [] := va_S.rf
  have hret : ∀ (r : Int32)  (H : Heap) (locs : List Loc) (ls : Array Slot) (pc : Nat), k r  → va_P G.1 vwCl (R) H → va_D A (R) → va_S A s.heap H locs → decode cJ0_indexOf_0f7a4 pc = .ok (.ireturn, 1) → W p l e rmJ0_indexOf_0f7a4 s m #[.ref (G.2.2.2.1 (i0)), .int p0] below meth c H locs 0 0 (MQ below (qQi G (R) s.heap.size (fun (r : Int32) (u : Unit) => k r ) (fun (u : Unit) => R)) #[.ref (G.2.2.2.1 (i0)), .int p0] s 0 0 A) (F0 m pc ls [.int r]) := fun r  H locs ls pc hk hP hD hS hd => W.iret hx hb hr (fun t ht hW => q_ri (u := (() : Unit)) hAe hk hP hD hS ht) hS.2.2 hd
  have hl := lv_entry ([.ref (G.2.2.2.1 (i0)), .int p0]) (n := 2) (Nat.le_of_ble_eq_true rfl)
  rw [lg_entry_eq]
  generalize (lg_sl ([.ref (G.2.2.2.1 (i0)), .int p0]) ++ List.replicate (2 - (lg_sl ([.ref (G.2.2.2.1 (i0)), .int p0])).length) Slot.unset).toArray = ls at hl ⊢
  have hl : lv_has ls 2 [(0, .ref (G.2.2.2.1 (i0))), (1, .int p0)] := hl
  unfold wJ0_indexOf_0f7a4 at h
  show W p l e rmJ0_indexOf_0f7a4 s m #[.ref (G.2.2.2.1 (i0)), .int p0] below meth c s.heap [] 0 0 _ _
  refine lv_aload_n hx hb dJ0_indexOf_0f7a4_0 rfl (lv_at hl 0 rfl) ?_
  refine lv_iload_n hx hb dJ0_indexOf_0f7a4_1 rfl (lv_at hl 1 rfl) ?_
  refine lv_iconst (v := (0 : Int32)) hx hb dJ0_indexOf_0f7a4_2 (by decide) ?_
  obtain ⟨hi, h⟩ := h
  refine qc_ki (As := [.int p0, .int (0 : Int32)]) (rest := []) ⟨hx, hb, hml, hown, hts⟩ (mJ0_indexOf_7cf53 l G _ _ _ (i0) (p0) ((0 : Int32))) (cwV 2 hts gJ0_indexOf_0f7a4_J0_indexOf_7cf53 rfl rfl rfl (by decide +kernel) ⟨Nat.le_of_ble_eq_true rfl, Nat.le_of_ble_eq_true rfl⟩) hP hD hS hA hKn hi h rfl hl.1 rfl (Nat.le_of_ble_eq_true rfl) dJ0_indexOf_0f7a4_3 ⟨Nat.zero_le _, Nat.zero_le _⟩ (fun r1 _ H locs h hP hD hS => ?_)
  have hP : va_P G.1 vwCl (R) H := hP
  have hD : va_D A (R) := hD
  exact hret _ _ _ _ _ h hP hD hS dJ0_indexOf_0f7a4_6
abbrev rmJ3_checkIndex_8e157 : Room := { frames := 0, cells := 0, slots := 0, locals := 0 }
set_option maxHeartbeats 4000000 in
set_option maxRecDepth 100000 in
theorem mJ3_checkIndex_8e157_n (l : Launch) (G : qG) (k : Int32 → Prop) (R : va_W)  (sz : Nat) (p0 : Int32) (p1 : Int32) : Met l yJ3_checkIndex_8e157 wsJ3_checkIndex_8e157 rmJ3_checkIndex_8e157 (qPc G [.int p0, .int p1, .null] (R) sz (wJ3_checkIndex_8e157 k  p0 p1)) (qQi G (R) sz (fun (r : Int32) (u : Unit) => k r ) (fun (u : Unit) => R)) 0 0 (va_A (R) sz) := by
  refine Met.ofW (cc := cJ3_checkIndex_8e157) (maxL := 3) (ret := (some .int)) (by decide) rfl ?_
  intro p e s m args below meth c s₁ B hml hv
  obtain ⟨rfl, hsz, hP, hD0, hKn0, h⟩ := hv
  have hx := B.exec
  have hb := B.bytes
  have hr := B.returns
  have hts := atoms_spec (ws := wsJ3_checkIndex_8e157) B.pre
  have hown : s.vm.findClass RJ3 = some m.cls := findClass_of_methodNamed B.named
  have hlocks := B.notSynchronized
  subst hsz
  have hD := hD0.self (sz := s.heap.size)
  generalize hAe : va_A (R) s.heap.size = A at hD hKn0 ⊢
  have hA : ∀ q : Nat, s.heap.size ≤ q → A q := fun q h => by rw [← hAe]; exact Or.inr h
  have hKn : qKn G A s s.heap := hKn0
  have hS : va_S A s.heap s.heap [] := va_S.rf
  have hret : ∀ (r : Int32)  (H : Heap) (locs : List Loc) (ls : Array Slot) (pc : Nat), k r  → va_P G.1 vwCl (R) H → va_D A (R) → va_S A s.heap H locs → decode cJ3_checkIndex_8e157 pc = .ok (.ireturn, 1) → W p l e rmJ3_checkIndex_8e157 s m #[.int p0, .int p1, .null] below meth c H locs 0 0 (MQ below (qQi G (R) s.heap.size (fun (r : Int32) (u : Unit) => k r ) (fun (u : Unit) => R)) #[.int p0, .int p1, .null] s 0 0 A) (F0 m pc ls [.int r]) := fun r  H locs ls pc hk hP hD hS hd => W.iret hx hb hr (fun t ht hW => q_ri (u := (() : Unit)) hAe hk hP hD hS ht) hS.2.2 hd
  have hl := lv_entry ([.int p0, .int p1, .null]) (n := 3) (Nat.le_of_ble_eq_true rfl)
  rw [lg_entry_eq]
  generalize (lg_sl ([.int p0, .int p1, .null]) ++ List.replicate (3 - (lg_sl ([.int p0, .int p1, .null])).length) Slot.unset).toArray = ls at hl ⊢
  have hl : lv_has ls 3 [(0, .int p0), (1, .int p1), (2, .null)] := hl
  unfold wJ3_checkIndex_8e157 at h
  show W p l e rmJ3_checkIndex_8e157 s m #[.int p0, .int p1, .null] below meth c s.heap [] 0 0 _ _
  refine lv_iload_n hx hb dJ3_checkIndex_8e157_0 rfl (lv_at hl 0 rfl) ?_
  refine lv_if_lt (tgt := 9) hx hb dJ3_checkIndex_8e157_1 (by decide) (fun c1 => ?_) (fun c1 => ?_)
  · have h := h.1 c1
    exact h.elim
  · have h := h.2 c1
    refine lv_iload_n hx hb dJ3_checkIndex_8e157_4 rfl (lv_at hl 0 rfl) ?_
    refine lv_iload_n hx hb dJ3_checkIndex_8e157_5 rfl (lv_at hl 1 rfl) ?_
    refine lv_icmp_lt (tgt := 16) hx hb dJ3_checkIndex_8e157_6 (by decide) (fun c1 => ?_) (fun c1 => ?_)
    · have h := h.1 c1
      refine lv_iload_n hx hb dJ3_checkIndex_8e157_16 rfl (lv_at hl 0 rfl) ?_
      exact hret _ _ _ _ _ h hP hD hS dJ3_checkIndex_8e157_17
    · have h := h.2 c1
      exact h.elim
set_option maxHeartbeats 4000000 in
set_option maxRecDepth 100000 in
theorem mJ3_checkIndex_8e157_r (l : Launch) (G : qG) (fa : Nat) (k : Int32 → Prop) (R : va_W)  (sz : Nat) (p0 : Int32) (p1 : Int32) : Met l yJ3_checkIndex_8e157 wsJ3_checkIndex_8e157 rmJ3_checkIndex_8e157 (qPc G [.int p0, .int p1, (.ref fa)] (R) sz (wJ3_checkIndex_8e157 k  p0 p1)) (qQi G (R) sz (fun (r : Int32) (u : Unit) => k r ) (fun (u : Unit) => R)) 0 0 (va_A (R) sz) := by
  refine Met.ofW (cc := cJ3_checkIndex_8e157) (maxL := 3) (ret := (some .int)) (by decide) rfl ?_
  intro p e s m args below meth c s₁ B hml hv
  obtain ⟨rfl, hsz, hP, hD0, hKn0, h⟩ := hv
  have hx := B.exec
  have hb := B.bytes
  have hr := B.returns
  have hts := atoms_spec (ws := wsJ3_checkIndex_8e157) B.pre
  have hown : s.vm.findClass RJ3 = some m.cls := findClass_of_methodNamed B.named
  have hlocks := B.notSynchronized
  subst hsz
  have hD := hD0.self (sz := s.heap.size)
  generalize hAe : va_A (R) s.heap.size = A at hD hKn0 ⊢
  have hA : ∀ q : Nat, s.heap.size ≤ q → A q := fun q h => by rw [← hAe]; exact Or.inr h
  have hKn : qKn G A s s.heap := hKn0
  have hS : va_S A s.heap s.heap [] := va_S.rf
  have hret : ∀ (r : Int32)  (H : Heap) (locs : List Loc) (ls : Array Slot) (pc : Nat), k r  → va_P G.1 vwCl (R) H → va_D A (R) → va_S A s.heap H locs → decode cJ3_checkIndex_8e157 pc = .ok (.ireturn, 1) → W p l e rmJ3_checkIndex_8e157 s m #[.int p0, .int p1, (.ref fa)] below meth c H locs 0 0 (MQ below (qQi G (R) s.heap.size (fun (r : Int32) (u : Unit) => k r ) (fun (u : Unit) => R)) #[.int p0, .int p1, (.ref fa)] s 0 0 A) (F0 m pc ls [.int r]) := fun r  H locs ls pc hk hP hD hS hd => W.iret hx hb hr (fun t ht hW => q_ri (u := (() : Unit)) hAe hk hP hD hS ht) hS.2.2 hd
  have hl := lv_entry ([.int p0, .int p1, (.ref fa)]) (n := 3) (Nat.le_of_ble_eq_true rfl)
  rw [lg_entry_eq]
  generalize (lg_sl ([.int p0, .int p1, (.ref fa)]) ++ List.replicate (3 - (lg_sl ([.int p0, .int p1, (.ref fa)])).length) Slot.unset).toArray = ls at hl ⊢
  have hl : lv_has ls 3 [(0, .int p0), (1, .int p1), (2, (.ref fa))] := hl
  unfold wJ3_checkIndex_8e157 at h
  show W p l e rmJ3_checkIndex_8e157 s m #[.int p0, .int p1, (.ref fa)] below meth c s.heap [] 0 0 _ _
  refine lv_iload_n hx hb dJ3_checkIndex_8e157_0 rfl (lv_at hl 0 rfl) ?_
  refine lv_if_lt (tgt := 9) hx hb dJ3_checkIndex_8e157_1 (by decide) (fun c1 => ?_) (fun c1 => ?_)
  · have h := h.1 c1
    exact h.elim
  · have h := h.2 c1
    refine lv_iload_n hx hb dJ3_checkIndex_8e157_4 rfl (lv_at hl 0 rfl) ?_
    refine lv_iload_n hx hb dJ3_checkIndex_8e157_5 rfl (lv_at hl 1 rfl) ?_
    refine lv_icmp_lt (tgt := 16) hx hb dJ3_checkIndex_8e157_6 (by decide) (fun c1 => ?_) (fun c1 => ?_)
    · have h := h.1 c1
      refine lv_iload_n hx hb dJ3_checkIndex_8e157_16 rfl (lv_at hl 0 rfl) ?_
      exact hret _ _ _ _ _ h hP hD hS dJ3_checkIndex_8e157_17
    · have h := h.2 c1
      exact h.elim
set_option maxHeartbeats 4000000 in
theorem mJ3_checkIndex_8e157 (l : Launch) (G : qG) (k : Int32 → Prop) (R : va_W)  (sz : Nat) (p0 : Int32) (p1 : Int32) (fv : Value) (hfv : fv = .null ∨ ∃ a, fv = .ref a) : Met l yJ3_checkIndex_8e157 wsJ3_checkIndex_8e157 rmJ3_checkIndex_8e157 (qPc G [.int p0, .int p1, fv] (R) sz (wJ3_checkIndex_8e157 k  p0 p1)) (qQi G (R) sz (fun (r : Int32) (u : Unit) => k r ) (fun (u : Unit) => R)) 0 0 (va_A (R) sz) := by
  rcases hfv with rfl | ⟨a, rfl⟩
  · exact mJ3_checkIndex_8e157_n l G k R sz p0 p1
  · exact mJ3_checkIndex_8e157_r l G a k R sz p0 p1
abbrev rmJ0_checkIndex_df160 : Room := { frames := 1, cells := 0, slots := 0, locals := 22 }
theorem lJ0_checkIndex_df160_f1053 : Cond.fieldLink RJ0 1053 "jdk/internal/util/Preconditions" "SIOOBE_FORMATTER" "Ljava/util/function/BiFunction;" ∈ wsJ0_checkIndex_df160 := by decide +kernel
set_option maxHeartbeats 4000000 in
set_option maxRecDepth 100000 in
theorem mJ0_checkIndex_df160 (l : Launch) (G : qG) (k : Prop) (R : va_W)  (sz : Nat) (p0 : Int32) (p1 : Int32) : Met l yJ0_checkIndex_df160 wsJ0_checkIndex_df160 rmJ0_checkIndex_df160 (qPc G [.int p0, .int p1] (R) sz (wJ0_checkIndex_df160 k  p0 p1)) (qQv G (R) sz (fun (u : Unit) => k ) (fun (u : Unit) => R)) 0 0 (va_A (R) sz) := by
  refine Met.ofW (cc := cJ0_checkIndex_df160) (maxL := 2) (ret := none) (by decide) rfl ?_
  intro p e s m args below meth c s₁ B hml hv
  obtain ⟨rfl, hsz, hP, hD0, hKn0, h⟩ := hv
  have hx := B.exec
  have hb := B.bytes
  have hr := B.returns
  have hts := atoms_spec (ws := wsJ0_checkIndex_df160) B.pre
  have hown : s.vm.findClass RJ0 = some m.cls := findClass_of_methodNamed B.named
  have hlocks := B.notSynchronized
  subst hsz
  have hD := hD0.self (sz := s.heap.size)
  generalize hAe : va_A (R) s.heap.size = A at hD hKn0 ⊢
  have hA : ∀ q : Nat, s.heap.size ≤ q → A q := fun q h => by rw [← hAe]; exact Or.inr h
  have hKn : qKn G A s s.heap := hKn0
  have hS : va_S A s.heap s.heap [] := va_S.rf
  have hret : ∀  (H : Heap) (locs : List Loc) (ls : Array Slot) (pc : Nat), k  → va_P G.1 vwCl (R) H → va_D A (R) → va_S A s.heap H locs → decode cJ0_checkIndex_df160 pc = .ok (.return_, 1) → W p l e rmJ0_checkIndex_df160 s m #[.int p0, .int p1] below meth c H locs 0 0 (MQ below (qQv G (R) s.heap.size (fun (u : Unit) => k ) (fun (u : Unit) => R)) #[.int p0, .int p1] s 0 0 A) (F0 m pc ls []) := fun  H locs ls pc hk hP hD hS hd => W.vret hx hb hr (fun t ht hW => q_rv (u := (() : Unit)) hAe hk hP hD hS ht) hS.2.2 hd
  have hl := lv_entry ([.int p0, .int p1]) (n := 2) (Nat.le_of_ble_eq_true rfl)
  rw [lg_entry_eq]
  generalize (lg_sl ([.int p0, .int p1]) ++ List.replicate (2 - (lg_sl ([.int p0, .int p1])).length) Slot.unset).toArray = ls at hl ⊢
  have hl : lv_has ls 2 [(0, .int p0), (1, .int p1)] := hl
  unfold wJ0_checkIndex_df160 at h
  show W p l e rmJ0_checkIndex_df160 s m #[.int p0, .int p1] below meth c s.heap [] 0 0 _ _
  refine lv_iload_n hx hb dJ0_checkIndex_df160_0 rfl (lv_at hl 0 rfl) ?_
  refine lv_iload_n hx hb dJ0_checkIndex_df160_1 rfl (lv_at hl 1 rfl) ?_
  refine va_gets (C := "jdk/internal/util/Preconditions") (n := "SIOOBE_FORMATTER") (d := "Ljava/util/function/BiFunction;") (ref := "jdk/internal/util/Preconditions") (v := qFm G) hx hb (hKn.2.2.1 _ (List.mem_of_getElem? (i := 4) rfl)) hS hown (hts _ lJ0_checkIndex_df160_f1053) (fun _ h9 => h9) dJ0_checkIndex_df160_2 ?_
  refine qc_si (As := [.int p0, .int p1, (qFm G)]) (rest := []) ⟨hx, hb, hml, hown, hts⟩ (mJ3_checkIndex_8e157 l G _ _ _ (p0) (p1) (qFm G) (qFm_or G)) (va_cwS 3 hts gJ0_checkIndex_df160_J3_checkIndex_8e157 rfl rfl rfl (by decide +kernel) ⟨Nat.le_of_ble_eq_true rfl, Nat.le_of_ble_eq_true rfl⟩) hP hD hS hA hKn h rfl hl.1 rfl (Nat.le_of_ble_eq_true rfl) dJ0_checkIndex_df160_5 ⟨Nat.zero_le _, Nat.zero_le _⟩ (fun r1 _ H locs h hP hD hS => ?_)
  have hP : va_P G.1 vwCl (R) H := hP
  have hD : va_D A (R) := hD
  refine lv_pop hx hb dJ0_checkIndex_df160_8 rfl ?_
  exact hret _ _ _ _ h hP hD hS dJ0_checkIndex_df160_9
abbrev rmJ1_charAt_3b067 : Room := { frames := 2, cells := 0, slots := 0, locals := 43 }
set_option maxHeartbeats 4000000 in
set_option maxRecDepth 100000 in
theorem mJ1_charAt_3b067 (l : Launch) (G : qG) (k : Int32 → Prop) (R : va_W)  (sz : Nat) (i0 : Nat) (p1 : Int32) : Met l yJ1_charAt_3b067 wsJ1_charAt_3b067 rmJ1_charAt_3b067 (qPc G [.ref (G.2.2.2.2 (i0)), .int p1] (R) sz (wJ1_charAt_3b067 k  i0 p1)) (qQi G (R) sz (fun (r : Int32) (u : Unit) => k r ) (fun (u : Unit) => R)) 0 0 (va_A (R) sz) := by
  refine Met.ofW (cc := cJ1_charAt_3b067) (maxL := 2) (ret := (some .char)) (by decide) rfl ?_
  intro p e s m args below meth c s₁ B hml hv
  obtain ⟨rfl, hsz, hP, hD0, hKn0, h⟩ := hv
  have hx := B.exec
  have hb := B.bytes
  have hr := B.returns
  have hts := atoms_spec (ws := wsJ1_charAt_3b067) B.pre
  have hown : s.vm.findClass RJ1 = some m.cls := findClass_of_methodNamed B.named
  have hlocks := B.notSynchronized
  subst hsz
  have hD := hD0.self (sz := s.heap.size)
  generalize hAe : va_A (R) s.heap.size = A at hD hKn0 ⊢
  have hA : ∀ q : Nat, s.heap.size ≤ q → A q := fun q h => by rw [← hAe]; exact Or.inr h
  have hKn : qKn G A s s.heap := hKn0
  have hS : va_S A s.heap s.heap [] := va_S.rf
  have hret : ∀ (r : Int32)  (H : Heap) (locs : List Loc) (ls : Array Slot) (pc : Nat), k r  → narrow .char (.int r) = .int r → va_P G.1 vwCl (R) H → va_D A (R) → va_S A s.heap H locs → decode cJ1_charAt_3b067 pc = .ok (.ireturn, 1) → W p l e rmJ1_charAt_3b067 s m #[.ref (G.2.2.2.2 (i0)), .int p1] below meth c H locs 0 0 (MQ below (qQi G (R) s.heap.size (fun (r : Int32) (u : Unit) => k r ) (fun (u : Unit) => R)) #[.ref (G.2.2.2.2 (i0)), .int p1] s 0 0 A) (F0 m pc ls [.int r]) := fun r  H locs ls pc hk hn hP hD hS hd => W.zret hx hb hr hn (fun t ht hW => q_ri (u := (() : Unit)) hAe hk hP hD hS ht) hS.2.2 hd
  have hl := lv_entry ([.ref (G.2.2.2.2 (i0)), .int p1]) (n := 2) (Nat.le_of_ble_eq_true rfl)
  rw [lg_entry_eq]
  generalize (lg_sl ([.ref (G.2.2.2.2 (i0)), .int p1]) ++ List.replicate (2 - (lg_sl ([.ref (G.2.2.2.2 (i0)), .int p1])).length) Slot.unset).toArray = ls at hl ⊢
  have hl : lv_has ls 2 [(0, .ref (G.2.2.2.2 (i0))), (1, .int p1)] := hl
  unfold wJ1_charAt_3b067 at h
  show W p l e rmJ1_charAt_3b067 s m #[.ref (G.2.2.2.2 (i0)), .int p1] below meth c s.heap [] 0 0 _ _
  refine lv_iload_n hx hb dJ1_charAt_3b067_0 rfl (lv_at hl 1 rfl) ?_
  refine lv_aload_n hx hb dJ1_charAt_3b067_1 rfl (lv_at hl 0 rfl) ?_
  obtain ⟨hi, h⟩ := h
  refine va_tlen (v := nI (qtl.getD (i0) 0)) hx hb (hKn.2.2.2.2.2.1.1 _ hi).2.2.2 hS rfl dJ1_charAt_3b067_2 ?_
  refine qc_sv (As := [.int p1, .int (nI (qtl.getD (i0) 0))]) (rest := []) ⟨hx, hb, hml, hown, hts⟩ (mJ0_checkIndex_df160 l G _ _ _ (p1) ((nI (qtl.getD (i0) 0)))) (va_cwS 2 hts gJ1_charAt_3b067_J0_checkIndex_df160 rfl rfl rfl (by decide +kernel) ⟨Nat.le_of_ble_eq_true rfl, Nat.le_of_ble_eq_true rfl⟩) hP hD hS hA hKn h rfl hl.1 rfl (Nat.le_of_ble_eq_true rfl) dJ1_charAt_3b067_3 ⟨Nat.zero_le _, Nat.zero_le _⟩ (fun _ H locs h hP hD hS => ?_)
  have hP : va_P G.1 vwCl (R) H := hP
  have hD : va_D A (R) := hD
  refine lv_aload_n hx hb dJ1_charAt_3b067_6 rfl (lv_at hl 0 rfl) ?_
  refine lv_iload_n hx hb dJ1_charAt_3b067_7 rfl (lv_at hl 1 rfl) ?_
  obtain ⟨hi, hin, h⟩ := h
  refine va_tb (v := .int ((qtx.getD (i0) []).getD (Int32.toNatClampNeg p1) 0)) hx hb (hKn.2.2.2.2.2.1.1 _ hi).2.2.2 hS hin rfl dJ1_charAt_3b067_8 ?_
  refine lv_sipush (v := (255 : Int32)) hx hb dJ1_charAt_3b067_9 (by decide) ?_
  refine lv_iand hx hb dJ1_charAt_3b067_12 ?_
  refine lv_i2c hx hb dJ1_charAt_3b067_13 rfl ?_
  obtain ⟨hn1, h⟩ := h
  exact hret _ _ _ _ _ h hn1 hP hD hS dJ1_charAt_3b067_14
abbrev rmJ0_charAt_5068e : Room := { frames := 3, cells := 0, slots := 0, locals := 64 }
theorem lJ0_charAt_5068e_f9 : Cond.fieldLink RJ0 9 "java/lang/String" "value" "[B" ∈ wsJ0_charAt_5068e := by decide +kernel
set_option maxHeartbeats 4000000 in
set_option maxRecDepth 100000 in
theorem mJ0_charAt_5068e (l : Launch) (G : qG) (k : Int32 → Prop) (R : va_W)  (sz : Nat) (i0 : Nat) (p0 : Int32) : Met l yJ0_charAt_5068e wsJ0_charAt_5068e rmJ0_charAt_5068e (qPc G [.ref (G.2.2.2.1 (i0)), .int p0] (R) sz (wJ0_charAt_5068e k  i0 p0)) (qQi G (R) sz (fun (r : Int32) (u : Unit) => k r ) (fun (u : Unit) => R)) 0 0 (va_A (R) sz) := by
  refine Met.ofW (cc := cJ0_charAt_5068e) (maxL := 2) (ret := (some .char)) (by decide) rfl ?_
  intro p e s m args below meth c s₁ B hml hv
  obtain ⟨rfl, hsz, hP, hD0, hKn0, h⟩ := hv
  have hx := B.exec
  have hb := B.bytes
  have hr := B.returns
  have hts := atoms_spec (ws := wsJ0_charAt_5068e) B.pre
  have hown : s.vm.findClass RJ0 = some m.cls := findClass_of_methodNamed B.named
  have hlocks := B.notSynchronized
  subst hsz
  have hD := hD0.self (sz := s.heap.size)
  generalize hAe : va_A (R) s.heap.size = A at hD hKn0 ⊢
  have hA : ∀ q : Nat, s.heap.size ≤ q → A q := fun q h => by rw [← hAe]; exact Or.inr h
  have hKn : qKn G A s s.heap := hKn0
  have hS : va_S A s.heap s.heap [] := va_S.rf
  have hret : ∀ (r : Int32)  (H : Heap) (locs : List Loc) (ls : Array Slot) (pc : Nat), k r  → narrow .char (.int r) = .int r → va_P G.1 vwCl (R) H → va_D A (R) → va_S A s.heap H locs → decode cJ0_charAt_5068e pc = .ok (.ireturn, 1) → W p l e rmJ0_charAt_5068e s m #[.ref (G.2.2.2.1 (i0)), .int p0] below meth c H locs 0 0 (MQ below (qQi G (R) s.heap.size (fun (r : Int32) (u : Unit) => k r ) (fun (u : Unit) => R)) #[.ref (G.2.2.2.1 (i0)), .int p0] s 0 0 A) (F0 m pc ls [.int r]) := fun r  H locs ls pc hk hn hP hD hS hd => W.zret hx hb hr hn (fun t ht hW => q_ri (u := (() : Unit)) hAe hk hP hD hS ht) hS.2.2 hd
  have hl := lv_entry ([.ref (G.2.2.2.1 (i0)), .int p0]) (n := 2) (Nat.le_of_ble_eq_true rfl)
  rw [lg_entry_eq]
  generalize (lg_sl ([.ref (G.2.2.2.1 (i0)), .int p0]) ++ List.replicate (2 - (lg_sl ([.ref (G.2.2.2.1 (i0)), .int p0])).length) Slot.unset).toArray = ls at hl ⊢
  have hl : lv_has ls 2 [(0, .ref (G.2.2.2.1 (i0))), (1, .int p0)] := hl
  unfold wJ0_charAt_5068e at h
  show W p l e rmJ0_charAt_5068e s m #[.ref (G.2.2.2.1 (i0)), .int p0] below meth c s.heap [] 0 0 _ _
  refine lv_aload_n hx hb dJ0_charAt_5068e_0 rfl (lv_at hl 0 rfl) ?_
  obtain ⟨hi, h⟩ := h
  refine qc_ki (As := []) (rest := []) ⟨hx, hb, hml, hown, hts⟩ (mJ0_isLatin1_aae02 l G _ _ _ (i0)) (cwV 0 hts gJ0_charAt_5068e_J0_isLatin1_aae02 rfl rfl rfl (by decide +kernel) ⟨Nat.le_of_ble_eq_true rfl, Nat.le_of_ble_eq_true rfl⟩) hP hD hS hA hKn hi h rfl hl.1 rfl (Nat.le_of_ble_eq_true rfl) dJ0_charAt_5068e_1 ⟨Nat.zero_le _, Nat.zero_le _⟩ (fun r1 _ H locs h hP hD hS => ?_)
  have hP : va_P G.1 vwCl (R) H := hP
  have hD : va_D A (R) := hD
  refine lv_if_eq (tgt := 16) hx hb dJ0_charAt_5068e_4 (by decide) (fun c1 => ?_) (fun c1 => ?_)
  · have h := h.1 c1
    exact h.elim
  · have h := h.2 c1
    refine lv_aload_n hx hb dJ0_charAt_5068e_7 rfl (lv_at hl 0 rfl) ?_
    obtain ⟨hi, h⟩ := h
    refine vk_getf hx hb (hKn.2.2.2.2.2.1.1 _ hi).2.2.1 hS hown (hts _ lJ0_charAt_5068e_f9) (fun _ h9 => h9) dJ0_charAt_5068e_8 ?_
    refine lv_iload_n hx hb dJ0_charAt_5068e_11 rfl (lv_at hl 1 rfl) ?_
    refine qc_si (As := [.ref (G.2.2.2.2 (i0)), .int p0]) (rest := []) ⟨hx, hb, hml, hown, hts⟩ (mJ1_charAt_3b067 l G _ _ _ (i0) (p0)) (va_cwS 2 hts gJ0_charAt_5068e_J1_charAt_3b067 rfl rfl rfl (by decide +kernel) ⟨Nat.le_of_ble_eq_true rfl, Nat.le_of_ble_eq_true rfl⟩) hP hD hS hA hKn h rfl hl.1 rfl (Nat.le_of_ble_eq_true rfl) dJ0_charAt_5068e_12 ⟨Nat.zero_le _, Nat.zero_le _⟩ (fun r2 _ H locs h hP hD hS => ?_)
    have hP : va_P G.1 vwCl (R) H := hP
    have hD : va_D A (R) := hD
    obtain ⟨hn1, h⟩ := h
    exact hret _ _ _ _ _ h hn1 hP hD hS dJ0_charAt_5068e_15
