/-! ===== constructors: what else they know, calls of theirs, new objects and rows in front of a world ===== -/
def qEx (G : qG) (A : Nat → Prop) (U : State) (H : Heap) : Prop := va_O "[I" (G.2.2.1 0) A U H ∧ (∀ cell : Cell, H[G.2.2.1 0]? = some cell → cell.slots.size = 6) ∧ va_AO RX6 U
theorem qEx.call {G : qG} {A A' : Nat → Prop} {s U : State} {H : Heap} {locs : List Loc} (h : qEx G A s s.heap) (hS : va_S A s.heap H locs) (hU : U.heap = H) (hW : s.WarmedH U.vm) (hAA : ∀ q, A' q → A q) : qEx G A' U U.heap := by
  obtain ⟨h1, h2, h3⟩ := h
  have hq : ∀ a : Nat, a < s.heap.size → ¬ A a → U.heap[a]? = s.heap[a]? := fun a g1 g2 => by rw [hU]; exact hS.2.1 a g1 g2
  obtain ⟨c0, g1, g2, g3, g4⟩ := id h1
  refine ⟨((va_O.moved hW.alike h1).kept hq).narrow hAA, fun cell hc => h2 cell ?_, va_AO.moved hW.alike h3⟩
  rw [← hq _ (Array.getElem?_eq_some_iff.mp g1).1 g4]; exact hc
theorem qEx.blind {G : qG} {A : Nat → Prop} {U : State} {a : Array Value} {g : JFrame} {mk : MethodId} (h : qEx G A U U.heap) : qEx G A (U.calling g mk a) (U.calling g mk a).heap :=
  ⟨va_O.moved (u := U) (U := U.calling g mk a) (Vm.Alike.refl U.vm) h.1, h.2.1, va_AO.moved (u := U) (U := U.calling g mk a) (Vm.Alike.refl U.vm) h.2.2⟩
/-- a constructor's start -/
def qPn (G : qG) (av : List Value) (ws : va_W) (sz : Nat) : Array Value → State → Prop := va_Pc av (fun U => U.heap.size = sz ∧ va_P G.1 vwCl ws U.heap ∧ va_D (fun _ => True) ws ∧ qKn G (va_A ws sz) U U.heap ∧ qEx G (va_A ws sz) U U.heap)
theorem qPn.blind {G : qG} {av : List Value} {ws : va_W} {sz : Nat} : FrameBlind (qPn G av ws sz) := by
  intro a U g mk h
  obtain ⟨h0, h1, h2, h3, h4, h5⟩ := h
  exact ⟨h0, h1, h2, h3, h4.blind, h5.blind⟩
theorem q_arrV {cA : ClassId} {n : Nat} {f g : Nat → Value} (h : ∀ j, j < n → f j = g j) : arrV cA n f = arrV cA n g := by
  unfold arrV
  have e : (fun j : Fin n => f j.val) = (fun j : Fin n => g j.val) := funext fun j => h j.val j.isLt
  rw [e]
theorem q_set {G : qG} {A : Nat → Prop} {ws : va_W} {H : Heap} {k q : Nat} {x y : va_E} (he : ws[k]? = some (q, x)) (hxy : va_at G.1 vwCl (q, x) H → va_at G.1 vwCl (q, y) H) (hP : va_P G.1 vwCl ws H) (hD : va_D A ws) : va_P G.1 vwCl (ws.set k (q, y)) H ∧ va_D A (ws.set k (q, y)) := by
  have hk : k < ws.length := (List.getElem?_eq_some_iff.mp he).1
  have key : ∀ (i : Nat) (p : Nat × va_E), (ws.set k (q, y))[i]? = some p → ∃ p0 : Nat × va_E, ws[i]? = some p0 ∧ p0.1 = p.1 ∧ (p0 = p ∨ (p0 = (q, x) ∧ p = (q, y))) := by
    intro i p hi
    by_cases c : k = i
    · subst c
      rw [List.getElem?_set_self hk] at hi
      cases hi
      exact ⟨(q, x), he, rfl, Or.inr ⟨rfl, rfl⟩⟩
    · rw [List.getElem?_set_ne c] at hi
      exact ⟨p, hi, rfl, Or.inl rfl⟩
  refine ⟨fun i p hi => ?_, fun i j p p2 hi hj e => ?_, fun i p hi => ?_⟩
  · obtain ⟨p0, h0, h1, h2⟩ := key i p hi
    rcases h2 with rfl | ⟨rfl, rfl⟩
    · exact hP i _ h0
    · exact hxy (hP i _ h0)
  · obtain ⟨p0, h0, h1, -⟩ := key i p hi
    obtain ⟨p1, g0, g1, -⟩ := key j p2 hj
    exact hD.1 i j p0 p1 h0 g0 (h1.trans (e.trans g1.symm))
  · obtain ⟨p0, h0, h1, -⟩ := key i p hi
    rw [← h1]; exact hD.2 i p0 h0
section QN
variable {p : Program} {l : Launch} {e : Env} {Rm : Room} {s : State} {m : MethodId} {args : Array Value} {below : List Frame} {meth : Method} {c : Code} {H : Heap} {locs : List Loc} {cells slots : Nat} {Q : State → Prop}
variable {y : MethodName} {bytes cc : ByteArray} {maxL nL n index mc ms : Nat} {wy : List Cond} {rm : Room} {Ts : List Cond} {own : String} {b : Nat} {As rest st0 : List Value} {ls : Array Slot} {pc : Nat} {G : qG} {A : Nat → Prop} {ws : va_W}
theorem q_pren (hP : va_P G.1 vwCl ws H) (hD : va_D A ws) (hS : va_S A s.heap H locs) (hA : ∀ q : Nat, s.heap.size ≤ q → A q) (hKn : qKn G A s s.heap) (hEx : qEx G A s s.heap) (av : List Value) : ∀ U : State, U.heap = H → s.WarmedH U.vm → qPn G av ws H.size av.toArray U :=
  fun U hU hW => ⟨rfl, by rw [hU], by rw [hU]; exact hP, hD.weaken (fun _ _ _ _ => trivial), hKn.call hS hU hW (q_free hD hS hA), hEx.call hS hU hW (q_free hD hS hA)⟩
theorem qc_I {S : Type} {post : S → Prop} {W' : S → va_W} (S0 : CallFix p m c cc nL s args Ts own) (hM : Met l y wy rm (qPn G (.ref b :: As) ws H.size) (qQv G ws H.size post W') mc ms (va_A ws H.size)) (cw : CallB Rm s args own index y bytes maxL none wy rm mc ms n ∧ y.name = "<init>" ∧ (Cond.instanceMethod y).before args s = true)
    (hP : va_P G.1 vwCl ws H) (hD : va_D A ws) (hS : va_S A s.heap H locs) (hA : ∀ q : Nat, s.heap.size ≤ q → A q) (hKn : qKn G A s s.heap) (hEx : qEx G A s s.heap)
    (hn : As.length = n) (hsize : ls.size = nL) (hst : st0 = As.reverse ++ .ref b :: rest) (hrest : (rest.map fun v => v.category).sum ≤ 8) (hdg : decode cc pc = .ok (.invokespecial index, 3)) (hcs : cells + mc ≤ Rm.cells ∧ slots + ms ≤ Rm.slots)
    (kk : ∀ (u : S) (H1 : Heap) (locs1 : List Loc), post u → va_P G.1 vwCl (W' u) H1 → va_D A (W' u) → va_S A s.heap H1 locs1 → W p l e Rm s m args below meth c H1 locs1 (cells + mc) (slots + ms) Q (F0 m (pc + 3) ls rest)) : W p l e Rm s m args below meth c H locs cells slots Q (F0 m pc ls st0) := by
  have hF := q_free hD hS hA
  refine va_callv (va_runI (As := As) (rest := rest) S0 hM cw ⟨qPn.blind, q_pren hP hD hS hA hKn hEx _⟩ rfl hn hsize hst (lv_room hrest) hdg hcs) hS (fun q _ h => hF q h) hF (fun u t H1 locs1 ht hvm hw hB hz1 hk1 hS1 => ?_)
  exact kk u H1 locs1 hw (ht ▸ hB.1) (hB.2.weaken (fun k q _ h => hF q.1 h)) hS1
theorem qc_IN {S : Type} {host : String} {post : S → Prop} {W' : S → va_W} (S0 : CallFix p m c cc nL s args Ts own) (hM : Met l y wy rm (qPn G (.ref b :: As) ws H.size) (qQv G ws H.size post W') mc ms (va_A ws H.size)) (cw : va_CN Rm s args own index y host bytes maxL none wy rm mc ms n ∧ y.name = "<init>" ∧ (Cond.instanceMethod y).before args s = true)
    (hP : va_P G.1 vwCl ws H) (hD : va_D A ws) (hS : va_S A s.heap H locs) (hA : ∀ q : Nat, s.heap.size ≤ q → A q) (hKn : qKn G A s s.heap) (hEx : qEx G A s s.heap)
    (hn : As.length = n) (hsize : ls.size = nL) (hst : st0 = As.reverse ++ .ref b :: rest) (hrest : (rest.map fun v => v.category).sum ≤ 8) (hdg : decode cc pc = .ok (.invokespecial index, 3)) (hcs : cells + mc ≤ Rm.cells ∧ slots + ms ≤ Rm.slots)
    (kk : ∀ (u : S) (H1 : Heap) (locs1 : List Loc), post u → va_P G.1 vwCl (W' u) H1 → va_D A (W' u) → va_S A s.heap H1 locs1 → W p l e Rm s m args below meth c H1 locs1 (cells + mc) (slots + ms) Q (F0 m (pc + 3) ls rest)) : W p l e Rm s m args below meth c H locs cells slots Q (F0 m pc ls st0) := by
  have hF := q_free hD hS hA
  refine va_callv (va_runIN (As := As) (rest := rest) S0 hM cw ⟨qPn.blind, q_pren hP hD hS hA hKn hEx _⟩ rfl hn hsize hst (lv_room hrest) hdg hcs) hS (fun q _ h => hF q h) hF (fun u t H1 locs1 ht hvm hw hB hz1 hk1 hS1 => ?_)
  exact kk u H1 locs1 hw (ht ▸ hB.1) (hB.2.weaken (fun k q _ h => hF q.1 h)) hS1
/-- a new row of numbers, in front -/
theorem q_newa (hx : p.tables.exec = Jvm.exec) (hb : c.code = cc) {atype : ArrayType} {ty : FieldType} (harr : (Cond.arrayClass (newarray.typeOf atype)).before args s = true) (hty : newarray.typeOf atype = ty) (hP : va_P G.1 vwCl ws H) (hD : va_D A ws) (hS : va_S A s.heap H locs) (hA : ∀ q : Nat, s.heap.size ≤ q → A q) (hKn : qKn G A s s.heap) (i : Nat) (hi : (qTY G)[i]? = some (G.2.1 i, ty)) (hra : ∀ cA, va_RA s cA ty → s.vm.findClass ("[" ++ ty.toString) = some cA)
    {x : Int32} {N' : Nat} {a0 : vp_A} (ha : ∀ cA : ClassId, vp_cell cA a0 = arrV cA N' (fun _ => defaultValue ty)) (hn : ¬ x < 0) (hN : x.toNatClampNeg = N') (hbytes : N' * componentBytes ty ≤ 536870912) (hcells : cells + 1 ≤ Rm.cells) (hslots : slots + N' ≤ Rm.slots) (hdg : decode cc pc = .ok (.newarray atype, 2))
    (kk : ∀ (q : Nat) (H1 : Heap), va_P G.1 vwCl ((q, .inl (G.2.1 i, a0)) :: ws) H1 → va_D A ((q, .inl (G.2.1 i, a0)) :: ws) → va_S A s.heap H1 locs → W p l e Rm s m args below meth c H1 locs (cells + 1) (slots + N') Q (F0 m (pc + 2) ls (.ref q :: rest))) : W p l e Rm s m args below meth c H locs cells slots Q (F0 m pc ls (.int x :: rest)) := by
  refine va_newa (ty := ty) hx hb harr hty hKn.k hP hD hS hA ha hn hN hbytes hcells hslots hdg (fun q cA H1 hK hP hD hS => ?_)
  have h1 : va_RA s cA ty := (hK.2 4 (cA, ty) rfl).2
  have h2 : va_RA s (G.2.1 i) ty := (hKn.k.2 i _ hi).2
  have e1 : cA = G.2.1 i := Option.some.inj ((hra _ h1).symm.trans (hra _ h2))
  subst e1
  obtain ⟨hP, hD⟩ := q_perm (List.perm_append_singleton _ _) hP hD
  exact kk q H1 hP hD hS
theorem q_newq (hx : p.tables.exec = Jvm.exec) (hb : c.code = cc) {own : String} {index : Nat} (hown : s.vm.findClass own = some m.cls) (hcl : (Cond.classLink own index RX6).before args s = true) (hP : va_P G.1 vwCl ws H) (hD : va_D A ws) (hS : va_S A s.heap H locs) (hA : ∀ q : Nat, s.heap.size ≤ q → A q) (hKn : qKn G A s s.heap) (hEx : qEx G A s s.heap)
    {x : Int32} {N' : Nat} (hn : ¬ x < 0) (hN : x.toNatClampNeg = N') (hbytes : N' * 4 ≤ 536870912) (hcells : cells + 1 ≤ Rm.cells) (hslots : slots + N' ≤ Rm.slots) (hdg : decode cc pc = .ok (.anewarray index, 3))
    (kk : ∀ (q : Nat) (H1 : Heap), va_P G.1 vwCl ((q, .inl (G.2.1 3, N', .inr (.inr (.inr (.inr (fun _ => none)))))) :: ws) H1 → va_D A ((q, .inl (G.2.1 3, N', .inr (.inr (.inr (.inr (fun _ => none)))))) :: ws) → va_S A s.heap H1 locs → W p l e Rm s m args below meth c H1 locs (cells + 1) (slots + N') Q (F0 m (pc + 3) ls (.ref q :: rest))) : W p l e Rm s m args below meth c H locs cells slots Q (F0 m pc ls (.int x :: rest)) := by
  refine va_newq hx hb hown hcl hEx.2.2 hKn.k hP hD hS hA hn hN hbytes hcells hslots hdg (fun q cA H1 hK hP hD hS => ?_)
  obtain ⟨-, -, -, -, -, h1⟩ := (hK.2 4 (cA, .object RX6) rfl).2
  obtain ⟨-, -, -, -, -, h2⟩ := (hKn.k.2 3 _ rfl).2
  have e1 : cA = G.2.1 3 := Option.some.inj (h1.symm.trans h2)
  subst e1
  obtain ⟨hP, hD⟩ := q_perm (List.perm_append_singleton _ _) hP hD
  exact kk q H1 hP hD hS
/-- a new object, in front -/
theorem q_new (hx : p.tables.exec = Jvm.exec) (hb : c.code = cc) {own C : String} {T : u_T} {N ci index : Nat} {Ts : List Cond} (hts : ∀ w ∈ Ts, w.before args s = true) (hin : ∀ w ∈ u_ws C T N, w ∈ Ts) (ty : Nat → FieldType) (hty : ∀ k, k < N → parseFieldDescriptor (T k).2.2.1 = some (ty k)) (hown : s.vm.findClass own = some m.cls) (hcl : (Cond.classLink own index C).before args s = true) (hinst : (Cond.instantiable C N).before args s = true) (hini : (Cond.initialized C).before args s = true)
    (hP : va_P G.1 vwCl ws H) (hD : va_D A ws) (hS : va_S A s.heap H locs) (hA : ∀ q : Nat, s.heap.size ≤ q → A q) (hKn : qKn G A s s.heap) (hc : vwCl[ci]? = some (C, T, N)) {fs : List Value} (hfs : ∀ j, j < N → defaultValue (ty j) = vp_V fs j) (hcells : cells + 1 ≤ Rm.cells) (hslots : slots + N ≤ Rm.slots) (hdg : decode cc pc = .ok (.new index, 3))
    (kk : ∀ (q : Nat) (H1 : Heap), va_P G.1 vwCl ((q, .inr (ci, fs)) :: ws) H1 → va_D A ((q, .inr (ci, fs)) :: ws) → va_S A s.heap H1 locs → W p l e Rm s m args below meth c H1 locs (cells + 1) (slots + N) Q (F0 m (pc + 3) ls (.ref q :: rest))) : W p l e Rm s m args below meth c H locs cells slots Q (F0 m pc ls rest) := by
  refine va_new hx hb hts hin ty hty hown hcl hinst hini hKn.k hP hD hS hA hc hfs hcells hslots hdg (fun q H1 hP hD hS => ?_)
  obtain ⟨hP, hD⟩ := q_perm (List.perm_append_singleton _ _) hP hD
  exact kk q H1 hP hD hS
abbrev qFs : Nat → Int32 := fun j => ([3, 20, 8, 5, 50, 2] : List Int32).getD j 0
/-- the clone of the first settings, in front -/
theorem q_clone (hx : p.tables.exec = Jvm.exec) (hb : c.code = cc) (hml : c.maxLocals = ls.size) {own : String} {index : Nat} (hown : s.vm.findClass own = some m.cls)
    (hlink : (Cond.methodLink own index ⟨"[I", "clone", "()Ljava/lang/Object;"⟩).before args s = true) (hsame : (Cond.sameMethod "[I" "java/lang/Object" "clone" "()Ljava/lang/Object;").before args s = true)
    (hnat : (Cond.native ⟨"java/lang/Object", "clone", "()Ljava/lang/Object;"⟩).before args s = true) (hinst : (Cond.instanceMethod ⟨"java/lang/Object", "clone", "()Ljava/lang/Object;"⟩).before args s = true)
    (hsel : (Cond.selects "[I" ⟨"[I", "clone", "()Ljava/lang/Object;"⟩ ⟨"java/lang/Object", "clone", "()Ljava/lang/Object;"⟩).before args s = true)
    (hP : va_P G.1 vwCl ws H) (hD : va_D A ws) (hS : va_S A s.heap H locs) (hA : ∀ q : Nat, s.heap.size ≤ q → A q) (hKn : qKn G A s s.heap) (hEx : qEx G A s s.heap)
    (hframes : 1 ≤ Rm.frames) (hlocals : (rest.map fun v => v.category).sum + 14 ≤ Rm.locals) (hcells : cells + 1 ≤ Rm.cells) (hslots : slots + 6 ≤ Rm.slots) (hdg : decode cc pc = .ok (.invokevirtual index, 3))
    (kk : ∀ (q : Nat) (H1 : Heap), va_P G.1 vwCl ((q, .inl (G.2.1 0, 6, .inl qFs)) :: ws) H1 → va_D A ((q, .inl (G.2.1 0, 6, .inl qFs)) :: ws) → va_S A s.heap H1 locs → W p l e Rm s m args below meth c H1 locs (cells + 1) (slots + 6) Q (F0 m (pc + 3) ls (.ref q :: rest))) : W p l e Rm s m args below meth c H locs cells slots Q (F0 m pc ls (.ref (G.2.2.1 0) :: rest)) := by
  obtain ⟨cell, h1, h2, h3, h4, h5, h6, h7⟩ := hKn.2.2.2.1 _ (List.mem_of_getElem? (i := 0) rfl)
  have hsz : cell.slots.size = 6 := hEx.2.1 cell h1
  obtain ⟨cell2, g1, -, g3, -⟩ := hEx.1
  have ec : cell2 = cell := Option.some.inj (g1.symm.trans h1)
  rw [ec] at g3
  have hR : s.vm.findClass "[I" = some (G.2.1 0) := (hKn.k.2 0 _ rfl).2
  have ecl : cell.cls = G.2.1 0 := Option.some.inj (g3.symm.trans hR)
  have hsl : cell.slots = Array.ofFn (n := 6) fun j => Value.int (qFs j.val) := by
    refine Array.ext (by rw [hsz, Array.size_ofFn]) (fun i hi1 hi2 => ?_)
    have hi : i < 6 := by rw [hsz] at hi1; exact hi1
    have q1 := h6 i hi
    rw [Array.getElem?_eq_getElem hi1] at q1
    rw [Array.getElem_ofFn]
    exact Option.some.inj q1
  have hcellE : ({ cls := cell.cls, slots := cell.slots } : Cell) = vp_cell (G.2.1 0) (6, .inl qFs) := by
    rw [ecl, hsl]; rfl
  obtain ⟨c0, t0', f1, f2, f3⟩ := Cond.castable_spec (va_Nw.use (A := args) rfl hKn.2.2.2.2.2.2.1)
  have e0 : c0 = G.2.1 0 := Option.some.inj (f1.symm.trans hR)
  subst e0
  intro T hT X
  have hcellT : T.heap[G.2.2.1 0]? = some cell := by rw [hT, hS.2.1 _ (Array.getElem?_eq_some_iff.mp h1).1 h7]; exact h1
  obtain ⟨hst, kS, hkS, compS, hkindS⟩ := id h2
  obtain ⟨-, kA, hkA, comp, hkind⟩ := State.isArrayOf_alike X.warmed.alike h2
  obtain ⟨vm', X', st⟩ := X.cloneArray hx hown hlink hsame hnat hinst hsel (a := G.2.2.1 0) (cell := cell) hcellT hst h3 g3 f2 (by rw [ecl]; exact f3)
    (fun i v hv => by
      have hi : i < 6 := by rw [← hsz]; exact (Array.getElem?_eq_some_iff.mp hv).1
      have q1 := h6 i hi
      rw [hv] at q1
      cases q1
      have hk' : T.vm.classes[cell.cls]? = some kA := hkA
      have hf : fits .int (.int (([3, 20, 8, 5, 50, 2] : List Int32).getD i 0)) = true := rfl
      simpa [State.fitsSlot, State.slotType?, hk', hkind] using hf)
    (g := F0 m pc ls (.ref (G.2.2.1 0) :: rest)) rfl (by rw [hml]) rfl (by rw [hb]; exact hdg) hframes (by show 2 * 0 + _ + 14 ≤ _; omega) hcells (by rw [hsz]; exact hslots) (hloader := Vm.clonesLoader_of_array hkS hkindS)
  rw [hcellE, hsz] at X'
  generalize hH1 : H.push (vp_cell (G.2.1 0) (6, .inl qFs)) = H1
  have z1 : H1.size = H.size + 1 := by rw [← hH1, Array.size_push]
  have e1 : H1[H.size]? = some (vp_cell (G.2.1 0) (6, .inl qFs)) := by rw [← hH1, Array.getElem?_push_size]
  have o1 : ∀ q : Nat, q < H.size → H1[q]? = H[q]? := fun q hq => by rw [← hH1, Array.getElem?_push, if_neg (Nat.ne_of_lt hq)]
  have hk : ∀ (k : Nat) (y : Nat × va_E), ws[k]? = some y → H1[y.1]? = H[y.1]? := fun k y hy => o1 y.1 ((hP k y hy).lt)
  have hP1 : va_P G.1 vwCl (ws ++ [(H.size, .inl (G.2.1 0, 6, .inl qFs))]) H1 := (hP.kept hk).app (fun k y hy => by
      have hz : k < 1 := (List.getElem?_eq_some_iff.mp hy).1
      rw [show k = 0 by omega] at hy
      cases hy
      exact e1)
  have hD1 : va_D A (ws ++ [(H.size, .inl (G.2.1 0, 6, .inl qFs))]) := hD.push hP rfl (hA _ hS.1)
  obtain ⟨hP1, hD1⟩ := q_perm (List.perm_append_singleton _ _) hP1 hD1
  obtain ⟨t, b1, b2⟩ := kk H.size H1 hP1 hD1 ⟨Nat.le_trans hS.1 (by omega), fun y h1 h2 => (o1 y (Nat.lt_of_lt_of_le h1 hS.1)).trans (hS.2.1 y h1 h2), hS.2.2⟩
    ((T.setVm vm').pushCell (vp_cell (G.2.1 0) (6, .inl qFs))) (by rw [← hH1, ← hT]; rfl) X'
  refine ⟨t, st t ?_, b2⟩
  rw [hcellE, hT]
  exact b1
end QN
abbrev rmJ7_fill_53178 : Room := { frames := 0, cells := 0, slots := 0, locals := 0 }
set_option maxHeartbeats 4000000 in
set_option maxRecDepth 100000 in
/-- Arrays.fill of an int row that stands at the place i of any world -/
theorem m_fill (l : Launch) (G : qG) (ws : va_W) (i n : Nat) (sz : Nat) {h0 : Nat} {f : Nat → Int32} (x : Int32) (hn : n < 1000) (e0 : ws[i]? = some (h0, .inl (G.2.1 0, n, .inl f))) : Met l yJ7_fill_53178 wsJ7_fill_53178 rmJ7_fill_53178 (qPc G [.ref h0, .int x] ws sz True) (qQv G ws sz (fun (_ : Unit) => True) (fun _ => ws.set i (h0, .inl (G.2.1 0, n, .inl (fun j => if j < n then x else f j))))) 0 0 (va_A ws sz) := by
  refine Met.ofW (cc := cJ7_fill_53178) (maxL := 4) (ret := none) (by decide) rfl ?_
  intro p e s m args below meth c s₁ B hml hv
  obtain ⟨rfl, hsz, hP, hD0, hKn0, -⟩ := hv
  have hx := B.exec
  have hb := B.bytes
  have hr := B.returns
  have hlocks := B.notSynchronized
  subst hsz
  have hD := hD0.self (sz := s.heap.size)
  generalize hAe : va_A ws s.heap.size = A at hD hKn0 ⊢
  have hA : ∀ q : Nat, s.heap.size ≤ q → A q := fun q h => by rw [← hAe]; exact Or.inr h
  have hKn : qKn G A s s.heap := hKn0
  have hS : va_S A s.heap s.heap [] := va_S.rf
  have hl := lv_entry ([.ref h0, .int x]) (n := 4) (Nat.le_of_ble_eq_true rfl)
  rw [lg_entry_eq]
  generalize (lg_sl ([.ref h0, .int x]) ++ List.replicate (4 - (lg_sl ([.ref h0, .int x])).length) Slot.unset).toArray = ls at hl ⊢
  have hl : lv_has ls 4 [(0, .ref h0), (1, .int x)] := hl
  show W p l e rmJ7_fill_53178 s m #[.ref h0, .int x] below meth c s.heap [] 0 0 _ _
  have hlen : i < ws.length := (List.getElem?_eq_some_iff.mp e0).1
  have key : ∀ (d t : Nat) (H : Heap) (locs : List Loc) (ls : Array Slot), t + d = n → va_P G.1 vwCl (ws.set i (h0, .inl (G.2.1 0, n, .inl (fun j => if j < t then x else f j)))) H → va_D A (ws.set i (h0, .inl (G.2.1 0, n, .inl (fun j => if j < t then x else f j)))) → va_S A s.heap H locs → lv_has ls 4 [(0, .ref h0), (1, .int x), (2, .int (nI t)), (3, .int (nI n))] → W p l e rmJ7_fill_53178 s m #[.ref h0, .int x] below meth c H locs 0 0 (MQ below (qQv G ws s.heap.size (fun (_ : Unit) => True) (fun _ => ws.set i (h0, .inl (G.2.1 0, n, .inl (fun j => if j < n then x else f j))))) #[.ref h0, .int x] s 0 0 A) (F0 m 5 ls []) := by
    intro d
    induction d with
    | zero =>
      intro t H locs ls ht hP hD hS hl
      obtain rfl : t = n := by omega
      refine lv_iload_n hx hb dJ7_fill_53178_5 rfl (lv_at hl 2 rfl) ?_
      refine lv_iload_n hx hb dJ7_fill_53178_6 rfl (lv_at hl 3 rfl) ?_
      refine lv_icmp_ge (tgt := 20) hx hb dJ7_fill_53178_7 (by decide) (fun c1 => ?_) (fun c1 => absurd (nI_le (Nat.le_refl t) (by omega)) c1)
      exact W.vret hx hb hr (fun t ht hW => q_rv (u := ()) hAe trivial hP hD hS ht) hS.2.2 dJ7_fill_53178_20
    | succ d ih =>
      intro t H locs ls ht hP hD hS hl
      refine lv_iload_n hx hb dJ7_fill_53178_5 rfl (lv_at hl 2 rfl) ?_
      refine lv_iload_n hx hb dJ7_fill_53178_6 rfl (lv_at hl 3 rfl) ?_
      refine lv_icmp_ge (tgt := 20) hx hb dJ7_fill_53178_7 (by decide) (fun c1 => absurd c1 (nI_ge (by omega) (by omega))) (fun c1 => ?_)
      refine lv_aload_n hx hb dJ7_fill_53178_10 rfl (lv_at hl 0 rfl) ?_
      refine lv_iload_n hx hb dJ7_fill_53178_11 rfl (lv_at hl 2 rfl) ?_
      refine lv_iload_n hx hb dJ7_fill_53178_12 rfl (lv_at hl 1 rfl) ?_
      refine va_iast hx hb hKn.k hP hD hS i 0 (List.getElem?_set_self hlen) rfl (vp_in_nI (by omega) (by omega)) dJ7_fill_53178_13 (fun H locs hP hD hS => ?_)
      have ef : upd (fun j => if j < t then x else f j) (nI t).toNatClampNeg x = (fun j => if j < t + 1 then x else f j) := by
        funext j
        rw [nI_clamp (by omega)]
        unfold upd
        by_cases c : j = t
        · rw [if_pos c, if_pos (by omega)]
        · rw [if_neg c]
          show (if j < t then x else f j) = _
          by_cases c2 : j < t
          · rw [if_pos c2, if_pos (by omega)]
          · rw [if_neg c2, if_neg (by omega)]
      rw [List.set_set] at hP hD
      rw [ef] at hP hD
      obtain ⟨y, ey⟩ : ∃ z : Int32, z = nI t + (1 : Int32) := ⟨_, rfl⟩
      refine lv_iinc (v := y) (lv' := [(2, .int y), (0, .ref h0), (1, .int x), (3, .int (nI n))]) hx hb dJ7_fill_53178_14 hl (k := 2) rfl (by rw [ey]; rfl) (by decide) rfl (fun ls hl => ?_)
      refine lv_goto (tgt := 5) hx hb dJ7_fill_53178_17 (by decide) ?_
      rw [nI_1] at ey
      subst ey
      exact ih (t + 1) H locs ls (by omega) hP hD hS (lv_sub hl [1, 2, 0, 3] rfl)
  refine lv_iconst (v := (0 : Int32)) hx hb dJ7_fill_53178_0 (by decide) ?_
  refine lv_istore_n (lv' := [(2, .int (0 : Int32)), (0, .ref h0), (1, .int x)]) hx hb dJ7_fill_53178_1 rfl hl (by decide) rfl (fun ls hl => ?_)
  refine lv_aload_n hx hb dJ7_fill_53178_2 rfl (lv_at hl 1 rfl) ?_
  refine va_alen (v := nI n) hx hb hKn.k hP i 0 e0 rfl rfl dJ7_fill_53178_3 ?_
  refine lv_istore_n (lv' := [(3, .int (nI n)), (2, .int (0 : Int32)), (0, .ref h0), (1, .int x)]) hx hb dJ7_fill_53178_4 rfl hl (by decide) rfl (fun ls hl => ?_)
  have es : ws.set i (h0, .inl (G.2.1 0, n, .inl (fun j => if j < 0 then x else f j))) = ws := by
    have e1 : (fun j => if j < 0 then x else f j) = f := by funext j; rw [if_neg (by omega)]
    rw [e1]
    refine List.ext_getElem? (fun j => ?_)
    by_cases c : i = j
    · subst c; rw [List.getElem?_set_self hlen, e0]
    · rw [List.getElem?_set_ne c]
  exact key n 0 s.heap [] ls (by omega) (by rw [es]; exact hP) (by rw [es]; exact hD) hS (lv_sub hl [2, 3, 1, 0] rfl)
/-- a quarry at first; nothing anywhere; the reference at first -/
def qI : qS := fun n => if n = 1 then qFs else if n = 6 then (fun j => if j < 20 then (-6 : Int32) else 0) else fun _ => 0
def zI : qS := fun _ _ => 0
def mI : qS := fun n => if n = 1 then upd (upd (upd (upd (upd (upd (fun _ => 0) 0 (3 : Int32)) 1 (20 : Int32)) 2 (8 : Int32)) 3 (5 : Int32)) 4 (50 : Int32)) 5 (2 : Int32) else fun _ => 0
