/-! ===== the base: states as functions, what is known of the machine (one bundle), contracts of one form, calls of one form ===== -/
abbrev qS : Type := Nat → Nat → Int32
/-- a state with one number changed: array n, place k -/
def up2 (q : qS) (n k : Nat) (x : Int32) : qS := fun i => if i = n then upd (q n) k x else q i
/-- a state with one array changed whole -/
def upA (q : qS) (n : Nat) (f : Nat → Int32) : qS := fun i => if i = n then f else q i
/-- what is known: layouts, array classes (int, boolean, char, Quarry), addresses of the static tables, of the text constants and of their bytes -/
abbrev qG : Type := va_G × (Nat → ClassId) × (Nat → Nat) × (Nat → Nat) × (Nat → Nat)
abbrev qTY (G : qG) : List (ClassId × FieldType) := [(G.2.1 0, .int), (G.2.1 1, .boolean), (G.2.1 2, .char), (G.2.1 3, .object RX6)]
/-- the nest mates' private members that are called -/
def qNL : List (String × Nat × MethodName) := [(RX9, 9, yX6_init), (RX6, 25, yX3_init), (RX6, 39, yX2_init), (RX6, 46, yX1_init), (RX6, 53, yX0_init), (RX4, 17, yX6_init), (RX7, 21, yX6_init), (RX9, 35, yX5_init), (RX4, 22, yX9_within), (RX6, 58, yX9_copyAll), (RX3, 24, yX9_copyAll), (RX8, 30, yX9_copyAll), (RX2, 18, yX9_copyAll), (RX1, 15, yX9_copyAll), (RX6, 88, yX9_within), (RX3, 32, yX9_within), (RX1, 27, yX9_within), (RX2, 29, yX9_within), (RX8, 34, yX9_within), (RX5, 21, yX9_within), (RX7, 22, yX9_within)]
def qNest (U : State) : Prop := ∀ w ∈ qNL, va_Nw (.methodLinkNest w.1 w.2.1 w.2.2 "QuarryBlends") U
/-- the nest mate's private statics that are read -/
def qFL : List (Nat × String) := [(9, "FIRST_SETTINGS"), (92, "LEAST_SETTINGS"), (95, "MOST_SETTINGS")]
def qFNest (U : State) : Prop := ∀ w ∈ qFL, va_Nw (.fieldLinkNest RX6 w.1 "QuarryBlends" w.2 "[I" "QuarryBlends") U
/-- the static fields that are read, and what stands in them -/
def qZL (G : qG) : List (String × String × String × Value) := [("QuarryBlends", "FIRST_SETTINGS", "[I", .ref (G.2.2.1 0)), ("QuarryBlends", "LEAST_SETTINGS", "[I", .ref (G.2.2.1 1)), ("QuarryBlends", "MOST_SETTINGS", "[I", .ref (G.2.2.1 2)), ("java/lang/String", "COMPACT_STRINGS", "Z", .int 1), ("jdk/internal/util/Preconditions", "SIOOBE_FORMATTER", "Ljava/util/function/BiFunction;", if G.2.2.1 3 = 0 then .null else .ref (G.2.2.1 3 - 1))]
def qTL (G : qG) : List (Nat × List Int32) := [(G.2.2.1 0, [3, 20, 8, 5, 50, 2]), (G.2.2.1 1, [0, 1, 1, 1, 1, 0]), (G.2.2.1 2, [20, 40, 24, 9, 200, 99])]
/-- the text constants: their characters -/
def qtx : List (List Int32) := [[102, 99, 103, 100, 109, 120], [110, 42, 49, 43, 110], [110, 58, 110, 45, 110, 47, 110, 45, 110, 36, 110], [49], [], [110]]
def qtl : List Nat := [6, 5, 11, 1, 0, 1]
def qRL (G : qG) : List (Nat × String × Nat) := [(46, "fcgdmx", G.2.2.2.1 0), (78, "n*1+n", G.2.2.2.1 1), (80, "n:n-n/n-n$n", G.2.2.2.1 2), (82, "1", G.2.2.2.1 3), (84, "", G.2.2.2.1 4), (86, "n", G.2.2.2.1 5)]
def qKn (G : qG) (A : Nat → Prop) (U : State) (H : Heap) : Prop := va_K G.1 vwCl (qTY G) U ∧ qNest U ∧ (∀ z ∈ qZL G, va_Z z.1 z.2.1 z.2.2.1 z.2.2.2 A U H) ∧ (∀ t ∈ qTL G, va_T .int t.1 6 (fun j => .int (t.2.getD j 0)) A U H) ∧ (∀ r ∈ qRL G, vk_R RX5 r.1 r.2.1 r.2.2 U) ∧ vk_S 6 qtl qtx G.2.2.2.1 G.2.2.2.2 A U H ∧ va_Nw (.castable "[I" "java/lang/Cloneable") U ∧ qFNest U
theorem qKn.k {G : qG} {A : Nat → Prop} {U : State} {H : Heap} (h : qKn G A U H) : va_K G.1 vwCl (qTY G) U := h.1
theorem qKn.call {G : qG} {A A' : Nat → Prop} {s U : State} {H : Heap} {locs : List Loc} (h : qKn G A s s.heap) (hS : va_S A s.heap H locs) (hU : U.heap = H) (hW : s.WarmedH U.vm) (hAA : ∀ q, A' q → A q) : qKn G A' U U.heap := by
  obtain ⟨h1, h2, h3, h4, h5, h6, h7, h8⟩ := h
  have hq : ∀ a : Nat, a < s.heap.size → ¬ A a → U.heap[a]? = s.heap[a]? := fun a g1 g2 => by rw [hU]; exact hS.2.1 a g1 g2
  exact ⟨va_K.moved hW.alike h1, fun w hw => va_Nw.warmM hW (h2 w hw), fun z hz => ((va_Z.moved hW.alike (h3 z hz)).kept hq).narrow hAA, fun t ht => ((va_T.moved hW.alike (h4 t ht)).kept hq).narrow hAA, fun r hr => vk_R.warm hW (h5 r hr), ((vk_S.moved hW.alike h6).kept hq).narrow hAA, va_Nw.warmC hW h7, fun w hw => va_Nw.warmF hW (h8 w hw)⟩
theorem qKn.blind {G : qG} {A : Nat → Prop} {U : State} {a : Array Value} {g : JFrame} {mk : MethodId} (h : qKn G A U U.heap) : qKn G A (U.calling g mk a) (U.calling g mk a).heap := by
  obtain ⟨h1, h2, h3, h4, h5, h6, h7, h8⟩ := h
  have hv : U.vm.Alike (U.calling g mk a).vm := Vm.Alike.refl U.vm
  exact ⟨va_K.moved (u := U) (U := U.calling g mk a) hv h1, fun w hw => va_Nw.same (u := U) (U := U.calling g mk a) rfl rfl (h2 w hw), fun z hz => va_Z.moved (u := U) (U := U.calling g mk a) hv (h3 z hz), fun t ht => va_T.moved (u := U) (U := U.calling g mk a) hv (h4 t ht), fun r hr => vk_R.same (u := U) (U := U.calling g mk a) rfl (h5 r hr), vk_S.moved (u := U) (U := U.calling g mk a) hv h6, va_Nw.same (u := U) (U := U.calling g mk a) rfl rfl h7, fun w hw => va_Nw.same (u := U) (U := U.calling g mk a) rfl rfl (h8 w hw)⟩
/-- a contract's start: the arguments, the cells ws, what is known, and the method's own condition -/
def qPc (G : qG) (av : List Value) (ws : va_W) (sz : Nat) (wp : Prop) : Array Value → State → Prop := va_Pc av (fun U => U.heap.size = sz ∧ va_P G.1 vwCl ws U.heap ∧ va_D (fun _ => True) ws ∧ qKn G (va_A ws sz) U U.heap ∧ wp)
theorem qPc.blind {G : qG} {av : List Value} {ws : va_W} {sz : Nat} {wp : Prop} : FrameBlind (qPc G av ws sz wp) := by
  intro a U g mk h
  obtain ⟨h0, h1, h2, h3, h4, h5⟩ := h
  exact ⟨h0, h1, h2, h3, h4.blind, h5⟩
def qB {S : Type} (G : qG) (ws : va_W) (sz : Nat) (W' : S → va_W) : S → State → Prop := fun u t => va_P G.1 vwCl (W' u) t.heap ∧ va_D (va_A ws sz) (W' u)
def qQi {S : Type} (G : qG) (ws : va_W) (sz : Nat) (post : Int32 → S → Prop) (W' : S → va_W) : Array Value → State → Outcome → State → Prop := va_Qi post (qB G ws sz W') (va_A ws sz)
def qQv {S : Type} (G : qG) (ws : va_W) (sz : Nat) (post : S → Prop) (W' : S → va_W) : Array Value → State → Outcome → State → Prop := va_Qv post (qB G ws sz W') (va_A ws sz)
def qQr {S : Type} (G : qG) (ws : va_W) (sz : Nat) (post : Nat → S → Prop) (W' : S → va_W) : Array Value → State → Outcome → State → Prop := va_Qr (S := Nat × S) (fun u => post u.1 u.2) (fun u a t => a = u.1 ∧ qB G ws sz W' u.2 t) (va_A ws sz)
/-- the whole world is the caller's own -/
theorem q_free {A : Nat → Prop} {ws : va_W} {s : State} {H : Heap} {locs : List Loc} (hD : va_D A ws) (hS : va_S A s.heap H locs) (hA : ∀ q : Nat, s.heap.size ≤ q → A q) : ∀ q, va_A ws H.size q → A q := by
  intro q h
  rcases h with ⟨k, e, h⟩ | h
  · exact hD.2 k (q, e) h
  · exact hA q (Nat.le_trans hS.1 h)
/-- a world in another order -/
theorem q_perm {A : Nat → Prop} {D : va_G} {ws ws' : va_W} {H : Heap} (hp : ws.Perm ws') (hP : va_P D vwCl ws H) (hD : va_D A ws) : va_P D vwCl ws' H ∧ va_D A ws' := by
  have hP' : ∀ q ∈ ws, va_at D vwCl q H := fun q hq => by obtain ⟨k, hk⟩ := List.getElem?_of_mem hq; exact hP k q hk
  have hA' : ∀ q ∈ ws, A q.1 := fun q hq => by obtain ⟨k, hk⟩ := List.getElem?_of_mem hq; exact hD.2 k q hk
  have hN : (ws.map Prod.fst).Nodup := by
    unfold List.Nodup
    rw [List.pairwise_iff_getElem]
    intro i j hi hj hij e
    rw [List.length_map] at hi hj
    rw [List.getElem_map, List.getElem_map] at e
    exact absurd (hD.1 i j _ _ (List.getElem?_eq_getElem hi) (List.getElem?_eq_getElem hj) e) (Nat.ne_of_lt hij)
  have hN' : (ws'.map Prod.fst).Nodup := (hp.map Prod.fst).nodup_iff.mp hN
  refine ⟨fun k q hk => hP' q (hp.mem_iff.mpr (List.mem_of_getElem? hk)), ⟨fun i j p q hi hj e => ?_, fun k q hk => hA' q (hp.mem_iff.mpr (List.mem_of_getElem? hk))⟩⟩
  unfold List.Nodup at hN'
  rw [List.pairwise_iff_getElem] at hN'
  obtain ⟨li, ei⟩ := List.getElem?_eq_some_iff.mp hi
  obtain ⟨lj, ej⟩ := List.getElem?_eq_some_iff.mp hj
  have m1 : (ws'.map Prod.fst)[i]'(by rw [List.length_map]; exact li) = p.1 := by rw [List.getElem_map, ei]
  have m2 : (ws'.map Prod.fst)[j]'(by rw [List.length_map]; exact lj) = q.1 := by rw [List.getElem_map, ej]
  rcases Nat.lt_trichotomy i j with h | h | h
  · exact absurd (m1.trans (e.trans m2.symm)) (hN' i j _ _ h)
  · exact h
  · exact absurd (m2.trans (e.symm.trans m1.symm)) (hN' j i _ _ h)
section QC
variable {p : Program} {l : Launch} {e : Env} {Rm : Room} {s : State} {m : MethodId} {args : Array Value} {below : List Frame} {meth : Method} {c : Code} {H : Heap} {locs : List Loc} {cells slots : Nat} {Q : State → Prop}
variable {y : MethodName} {bytes cc : ByteArray} {maxL nL n index : Nat} {ret : Option FieldType} {wy : List Cond} {rm : Room} {Ts : List Cond} {own C : String} {b : Nat} {As rest st0 : List Value} {ls : Array Slot} {pc : Nat} {G : qG} {A : Nat → Prop} {ws : va_W} {wp : Prop}
theorem q_pre (hP : va_P G.1 vwCl ws H) (hD : va_D A ws) (hS : va_S A s.heap H locs) (hA : ∀ q : Nat, s.heap.size ≤ q → A q) (hKn : qKn G A s s.heap) (h : wp) (av : List Value) : ∀ U : State, U.heap = H → s.WarmedH U.vm → qPc G av ws H.size wp av.toArray U :=
  fun U hU hW => ⟨rfl, by rw [hU], by rw [hU]; exact hP, hD.weaken (fun _ _ _ _ => trivial), hKn.call hS hU hW (q_free hD hS hA), h⟩
theorem qc_vi {S : Type} {post : Int32 → S → Prop} {W' : S → va_W} (S0 : CallFix p m c cc nL s args Ts own) (hM : Met l y wy rm (qPc G (.ref b :: As) ws H.size wp) (qQi G ws H.size post W') 0 0 (va_A ws H.size)) (cw : CallW Rm s args own C index y bytes maxL ret wy rm 0 0 n)
    (hP : va_P G.1 vwCl ws H) (hD : va_D A ws) (hS : va_S A s.heap H locs) (hA : ∀ q : Nat, s.heap.size ≤ q → A q) (hKn : qKn G A s s.heap) (q0 ci : Nat) {fs : List Value} {r : vw_C} (he : ws[q0]? = some (b, .inr (ci, fs))) (hc : vwCl[ci]? = some r) (hrC : r.1 = C) (hwp : wp)
    (hn : As.length = n) (hsize : ls.size = nL) (hst : st0 = As.reverse ++ .ref b :: rest) (hrest : (rest.map fun v => v.category).sum ≤ 8) (hdg : decode cc pc = .ok (.invokevirtual index, 3)) (hcs : cells ≤ Rm.cells ∧ slots ≤ Rm.slots)
    (kk : ∀ (r : Int32) (u : S) (H1 : Heap) (locs1 : List Loc), post r u → va_P G.1 vwCl (W' u) H1 → va_D A (W' u) → va_S A s.heap H1 locs1 → W p l e Rm s m args below meth c H1 locs1 cells slots Q (F0 m (pc + 3) ls (.int r :: rest))) : W p l e Rm s m args below meth c H locs cells slots Q (F0 m pc ls st0) := by
  subst hrC
  have hF := q_free hD hS hA
  refine va_calli (va_runV (As := As) (rest := rest) S0 hM cw ⟨qPc.blind, va_recv hKn.k hP hc he, q_pre hP hD hS hA hKn hwp _⟩ rfl hn hsize hst (lv_room hrest) hdg hcs) hS (fun q _ h => hF q h) hF (fun r u t H1 locs1 ht hvm hw hB hz1 hk1 hS1 => ?_)
  exact kk r u H1 locs1 hw (ht ▸ hB.1) (hB.2.weaken (fun k q _ h => hF q.1 h)) hS1
theorem qc_vv {S : Type} {post : S → Prop} {W' : S → va_W} (S0 : CallFix p m c cc nL s args Ts own) (hM : Met l y wy rm (qPc G (.ref b :: As) ws H.size wp) (qQv G ws H.size post W') 0 0 (va_A ws H.size)) (cw : CallW Rm s args own C index y bytes maxL ret wy rm 0 0 n)
    (hP : va_P G.1 vwCl ws H) (hD : va_D A ws) (hS : va_S A s.heap H locs) (hA : ∀ q : Nat, s.heap.size ≤ q → A q) (hKn : qKn G A s s.heap) (q0 ci : Nat) {fs : List Value} {r : vw_C} (he : ws[q0]? = some (b, .inr (ci, fs))) (hc : vwCl[ci]? = some r) (hrC : r.1 = C) (hwp : wp)
    (hn : As.length = n) (hsize : ls.size = nL) (hst : st0 = As.reverse ++ .ref b :: rest) (hrest : (rest.map fun v => v.category).sum ≤ 8) (hdg : decode cc pc = .ok (.invokevirtual index, 3)) (hcs : cells ≤ Rm.cells ∧ slots ≤ Rm.slots)
    (kk : ∀ (u : S) (H1 : Heap) (locs1 : List Loc), post u → va_P G.1 vwCl (W' u) H1 → va_D A (W' u) → va_S A s.heap H1 locs1 → W p l e Rm s m args below meth c H1 locs1 cells slots Q (F0 m (pc + 3) ls rest)) : W p l e Rm s m args below meth c H locs cells slots Q (F0 m pc ls st0) := by
  subst hrC
  have hF := q_free hD hS hA
  refine va_callv (va_runV (As := As) (rest := rest) S0 hM cw ⟨qPc.blind, va_recv hKn.k hP hc he, q_pre hP hD hS hA hKn hwp _⟩ rfl hn hsize hst (lv_room hrest) hdg hcs) hS (fun q _ h => hF q h) hF (fun u t H1 locs1 ht hvm hw hB hz1 hk1 hS1 => ?_)
  exact kk u H1 locs1 hw (ht ▸ hB.1) (hB.2.weaken (fun k q _ h => hF q.1 h)) hS1
theorem qc_si {S : Type} {post : Int32 → S → Prop} {W' : S → va_W} (S0 : CallFix p m c cc nL s args Ts own) (hM : Met l y wy rm (qPc G As ws H.size wp) (qQi G ws H.size post W') 0 0 (va_A ws H.size)) (cw : CallB Rm s args own index y bytes maxL ret wy rm 0 0 n ∧ (Cond.static y).before args s = true)
    (hP : va_P G.1 vwCl ws H) (hD : va_D A ws) (hS : va_S A s.heap H locs) (hA : ∀ q : Nat, s.heap.size ≤ q → A q) (hKn : qKn G A s s.heap) (hwp : wp)
    (hn : As.length = n) (hsize : ls.size = nL) (hst : st0 = As.reverse ++ rest) (hrest : (rest.map fun v => v.category).sum ≤ 8) (hdg : decode cc pc = .ok (.invokestatic index, 3)) (hcs : cells ≤ Rm.cells ∧ slots ≤ Rm.slots)
    (kk : ∀ (r : Int32) (u : S) (H1 : Heap) (locs1 : List Loc), post r u → va_P G.1 vwCl (W' u) H1 → va_D A (W' u) → va_S A s.heap H1 locs1 → W p l e Rm s m args below meth c H1 locs1 cells slots Q (F0 m (pc + 3) ls (.int r :: rest))) : W p l e Rm s m args below meth c H locs cells slots Q (F0 m pc ls st0) := by
  have hF := q_free hD hS hA
  refine va_calli (va_runS (As := As) (rest := rest) S0 hM cw ⟨qPc.blind, q_pre hP hD hS hA hKn hwp _⟩ rfl hn hsize hst (lv_room hrest) hdg hcs) hS (fun q _ h => hF q h) hF (fun r u t H1 locs1 ht hvm hw hB hz1 hk1 hS1 => ?_)
  exact kk r u H1 locs1 hw (ht ▸ hB.1) (hB.2.weaken (fun k q _ h => hF q.1 h)) hS1
theorem qc_sv {S : Type} {post : S → Prop} {W' : S → va_W} (S0 : CallFix p m c cc nL s args Ts own) (hM : Met l y wy rm (qPc G As ws H.size wp) (qQv G ws H.size post W') 0 0 (va_A ws H.size)) (cw : CallB Rm s args own index y bytes maxL ret wy rm 0 0 n ∧ (Cond.static y).before args s = true)
    (hP : va_P G.1 vwCl ws H) (hD : va_D A ws) (hS : va_S A s.heap H locs) (hA : ∀ q : Nat, s.heap.size ≤ q → A q) (hKn : qKn G A s s.heap) (hwp : wp)
    (hn : As.length = n) (hsize : ls.size = nL) (hst : st0 = As.reverse ++ rest) (hrest : (rest.map fun v => v.category).sum ≤ 8) (hdg : decode cc pc = .ok (.invokestatic index, 3)) (hcs : cells ≤ Rm.cells ∧ slots ≤ Rm.slots)
    (kk : ∀ (u : S) (H1 : Heap) (locs1 : List Loc), post u → va_P G.1 vwCl (W' u) H1 → va_D A (W' u) → va_S A s.heap H1 locs1 → W p l e Rm s m args below meth c H1 locs1 cells slots Q (F0 m (pc + 3) ls rest)) : W p l e Rm s m args below meth c H locs cells slots Q (F0 m pc ls st0) := by
  have hF := q_free hD hS hA
  refine va_callv (va_runS (As := As) (rest := rest) S0 hM cw ⟨qPc.blind, q_pre hP hD hS hA hKn hwp _⟩ rfl hn hsize hst (lv_room hrest) hdg hcs) hS (fun q _ h => hF q h) hF (fun u t H1 locs1 ht hvm hw hB hz1 hk1 hS1 => ?_)
  exact kk u H1 locs1 hw (ht ▸ hB.1) (hB.2.weaken (fun k q _ h => hF q.1 h)) hS1
theorem qc_ni {S : Type} {host : String} {post : Int32 → S → Prop} {W' : S → va_W} (S0 : CallFix p m c cc nL s args Ts own) (hM : Met l y wy rm (qPc G As ws H.size wp) (qQi G ws H.size post W') 0 0 (va_A ws H.size)) (cw : va_CN Rm s args own index y host bytes maxL ret wy rm 0 0 n ∧ (Cond.static y).before args s = true ∧ True)
    (hP : va_P G.1 vwCl ws H) (hD : va_D A ws) (hS : va_S A s.heap H locs) (hA : ∀ q : Nat, s.heap.size ≤ q → A q) (hKn : qKn G A s s.heap) (hwp : wp)
    (hn : As.length = n) (hsize : ls.size = nL) (hst : st0 = As.reverse ++ rest) (hrest : (rest.map fun v => v.category).sum ≤ 8) (hdg : decode cc pc = .ok (.invokestatic index, 3)) (hcs : cells ≤ Rm.cells ∧ slots ≤ Rm.slots)
    (kk : ∀ (r : Int32) (u : S) (H1 : Heap) (locs1 : List Loc), post r u → va_P G.1 vwCl (W' u) H1 → va_D A (W' u) → va_S A s.heap H1 locs1 → W p l e Rm s m args below meth c H1 locs1 cells slots Q (F0 m (pc + 3) ls (.int r :: rest))) : W p l e Rm s m args below meth c H locs cells slots Q (F0 m pc ls st0) := by
  have hF := q_free hD hS hA
  refine va_calli (va_runSN (As := As) (rest := rest) S0 hM cw ⟨qPc.blind, q_pre hP hD hS hA hKn hwp _⟩ rfl hn hsize hst (lv_room hrest) hdg hcs) hS (fun q _ h => hF q h) hF (fun r u t H1 locs1 ht hvm hw hB hz1 hk1 hS1 => ?_)
  exact kk r u H1 locs1 hw (ht ▸ hB.1) (hB.2.weaken (fun k q _ h => hF q.1 h)) hS1
theorem qc_nv {S : Type} {host : String} {post : S → Prop} {W' : S → va_W} (S0 : CallFix p m c cc nL s args Ts own) (hM : Met l y wy rm (qPc G As ws H.size wp) (qQv G ws H.size post W') 0 0 (va_A ws H.size)) (cw : va_CN Rm s args own index y host bytes maxL ret wy rm 0 0 n ∧ (Cond.static y).before args s = true ∧ True)
    (hP : va_P G.1 vwCl ws H) (hD : va_D A ws) (hS : va_S A s.heap H locs) (hA : ∀ q : Nat, s.heap.size ≤ q → A q) (hKn : qKn G A s s.heap) (hwp : wp)
    (hn : As.length = n) (hsize : ls.size = nL) (hst : st0 = As.reverse ++ rest) (hrest : (rest.map fun v => v.category).sum ≤ 8) (hdg : decode cc pc = .ok (.invokestatic index, 3)) (hcs : cells ≤ Rm.cells ∧ slots ≤ Rm.slots)
    (kk : ∀ (u : S) (H1 : Heap) (locs1 : List Loc), post u → va_P G.1 vwCl (W' u) H1 → va_D A (W' u) → va_S A s.heap H1 locs1 → W p l e Rm s m args below meth c H1 locs1 cells slots Q (F0 m (pc + 3) ls rest)) : W p l e Rm s m args below meth c H locs cells slots Q (F0 m pc ls st0) := by
  have hF := q_free hD hS hA
  refine va_callv (va_runSN (As := As) (rest := rest) S0 hM cw ⟨qPc.blind, q_pre hP hD hS hA hKn hwp _⟩ rfl hn hsize hst (lv_room hrest) hdg hcs) hS (fun q _ h => hF q h) hF (fun u t H1 locs1 ht hvm hw hB hz1 hk1 hS1 => ?_)
  exact kk u H1 locs1 hw (ht ▸ hB.1) (hB.2.weaken (fun k q _ h => hF q.1 h)) hS1
end QC
/-! ends: a world at a return is the contract's -/
theorem q_ri {S : Type} {G : qG} {ws : va_W} {s t : State} {A : Nat → Prop} {post : Int32 → S → Prop} {W' : S → va_W} {args : Array Value} {r : Int32} {u : S} {H : Heap} {locs : List Loc} (hA : va_A ws s.heap.size = A) (hp : post r u) (hP : va_P G.1 vwCl (W' u) H) (hD : va_D A (W' u)) (hS : va_S A s.heap H locs) (ht : t.heap = H) : qQi G ws s.heap.size post W' args s (.returned (some (.int r))) t := by
  subst hA
  exact ⟨⟨r, u, rfl, hp, by rw [ht]; exact hP, hD⟩, hS.F ht⟩
theorem q_rv {S : Type} {G : qG} {ws : va_W} {s t : State} {A : Nat → Prop} {post : S → Prop} {W' : S → va_W} {args : Array Value} {u : S} {H : Heap} {locs : List Loc} (hA : va_A ws s.heap.size = A) (hp : post u) (hP : va_P G.1 vwCl (W' u) H) (hD : va_D A (W' u)) (hS : va_S A s.heap H locs) (ht : t.heap = H) : qQv G ws s.heap.size post W' args s (.returned none) t := by
  subst hA
  exact ⟨⟨u, rfl, hp, by rw [ht]; exact hP, hD⟩, hS.F ht⟩
/-! switches -/
theorem q_ti (x k : Int32) (h : ¬ x = k) : ¬ x.toInt = k.toInt := fun e => h (Int32.toInt_inj.mp e)
