/-! THE CLAIM OUT OF ONE WALK OF THE LAW'S BODY. Your part is whole_start (and what it stands on); all else here is the same for every law, but numbers. -/
def R_law : String := "QuarryBlendsLaw"
def lw_P (b : Addr) (xs : List Int32) (args : Array Value) (s : State) : Prop := args = #[.ref b] ∧ s.IntsAt b xs ∧ xs.length ≤ 3584 ∧ (Jvm.Cond.and given_1 narrow_1).before args s = true
def lw_Q (_ : Array Value) (s : State) (o : Outcome) (t : State) : Prop := o = .returned (some (.int 1)) ∧ Framed s o t [] 600000 7302249
def lw_Z (below : List Frame) (a : Array Value) (s : State) : State → Prop := fun t => ∃ o, t.status = .running ∧ Ended t below o ∧ lw_Q a s o t
/-- the law's own end, with 1 on the stack, nothing written that was there before, its room as the claim has it -/
theorem lw_ret {p : Program} {l : Launch} {e : Env} {s : State} {m : MethodId} {below : List Frame} {meth : Method} {c : Code} {b : Nat} (hx : p.tables.exec = Jvm.exec) (hb : c.code = code) (hr : meth.sig.returnType = ret) (hlocks : meth.locks = false) {pc : Nat} {H : Heap} {ls : Array Slot} (hdg : decode code pc = .ok (.ireturn, 1)) : W p l e room_1 s m #[Value.ref b] below meth c H [] 600000 7302249 (lw_Z below #[Value.ref b] s) (F0 m pc ls [.int 1]) := by
  intro T hT X
  obtain ⟨fs, hret, hrun, hended, hW, hframe⟩ := X.leave (v := some (.int 1)) (hlocks := hlocks) (fun h => by rw [hr] at h; cases h)
  have hmeth' : T.vm.method? m = some meth := X.method'
  refine ⟨T.setFrames fs, ?_, .returned (some (.int 1)), hrun, hended, rfl, ⟨_, rfl⟩, hW, hframe⟩
  jvm_step X.here [X.here.top, hx, hb, hdg, hmeth', hr, ret, narrow_b1]
  (try refine ⟨rfl, ?_⟩); (try refine ⟨rfl, ?_⟩)
  first | (intro acts; rw [hret _ acts rfl rfl rfl]) | rw [hret _ _ rfl rfl rfl]
  exact Steps.refl _
/-- what holds at the law's entry: the machine, the code, the tables' words (any of lw_tbl by 'hts w (by decide +kernel)'), the script of L ints xs at the cell b, what the Statement gives of the start (any of its parts by flat_of_before) -/
def lw_At (p : Program) (s : State) (m : MethodId) (meth : Method) (c : Code) (b L : Nat) (xs : Nat → Int32) : Prop :=
  p.tables.exec = Jvm.exec ∧ c.code = code ∧ meth.sig.returnType = ret ∧ c.maxLocals = 4 ∧ s.vm.findClass R_law = some m.cls ∧ (∀ w ∈ lw_tbl, w.before #[Value.ref b] s = true) ∧ va_X b L xs s s.heap ∧ b < s.heap.size ∧ meth.locks = false ∧ (Jvm.Cond.and given_1 narrow_1).before #[Value.ref b] s = true
theorem law_len {args : Array Value} {s : State} {tm : Term} {v : Value} {b : Nat} {cell : Cell} (hv : (Term.length tm).eval args s none [] s = some v) (ht : tm.eval args s none [] s = some (.ref b)) (harr : s.arrayAt? b = some cell) : cell.slots.size < 2147483648 := by
  simp only [Term.eval, ht, harr, Option.bind_eq_bind, Option.bind_some] at hv
  by_cases hlt : cell.slots.size < 2147483648
  · exact hlt
  · simp [hlt] at hv
set_option maxHeartbeats 4000000 in
set_option maxRecDepth 100000 in
/-- what is known at the start -/
theorem law_known {s : State} {sb : Nat} (hts0 : ∀ w ∈ lw_tbl, w.before #[Value.ref sb] s = true) (hs : ∀ c ∈ flatC (Jvm.Cond.and given_1 narrow_1), c.before #[Value.ref sb] s = true) : ∃ G : qG, qKn G (fun q => s.heap.size ≤ q) s s.heap ∧ qEx G (fun q => s.heap.size ≤ q) s s.heap := by
  have hA : ∀ a : Nat, a < s.heap.size → ¬ (fun q => s.heap.size ≤ q) a := fun a h => Nat.not_le.mpr h
  obtain ⟨c0, i0, k0⟩ := u_known (C := RX0) (T := TX0) (N := 8) (n := 8) hts0 in_wsX00 (hts0 (.instantiable RX0 8) (by decide +kernel))
  obtain ⟨c1, i1, k1⟩ := u_known (C := RX1) (T := TX1) (N := 2) (n := 2) hts0 in_wsX10 (hts0 (.instantiable RX1 2) (by decide +kernel))
  obtain ⟨c2, i2, k2⟩ := u_known (C := RX2) (T := TX2) (N := 4) (n := 4) hts0 in_wsX20 (hts0 (.instantiable RX2 4) (by decide +kernel))
  obtain ⟨c3, i3, k3⟩ := u_known (C := RX3) (T := TX3) (N := 5) (n := 5) hts0 in_wsX30 (hts0 (.instantiable RX3 5) (by decide +kernel))
  obtain ⟨c4, i4, k4⟩ := u_known (C := RX4) (T := TX4) (N := 3) (n := 3) hts0 in_wsX40 (hts0 (.instantiable RX4 3) (by decide +kernel))
  obtain ⟨c5, i5, k5⟩ := u_known (C := RX5) (T := TX5) (N := 6) (n := 6) hts0 in_wsX50 (hts0 (.instantiable RX5 6) (by decide +kernel))
  obtain ⟨c6, i6, k6⟩ := u_known (C := RX6) (T := TX6) (N := 10) (n := 10) hts0 in_wsX60 (hts0 (.instantiable RX6 10) (by decide +kernel))
  obtain ⟨c7, i7, k7⟩ := u_known (C := RX7) (T := TX7) (N := 2) (n := 2) hts0 in_wsX70 (hts0 (.instantiable RX7 2) (by decide +kernel))
  obtain ⟨c8, i8, k8⟩ := u_known (C := RX8) (T := TX8) (N := 4) (n := 4) hts0 in_wsX80 (hts0 (.instantiable RX8 4) (by decide +kernel))
  obtain ⟨c9, i9, k9⟩ := u_known (C := RX9) (T := TX9) (N := 5) (n := 5) hts0 in_wsX90 (hts0 (.instantiable RX9 5) (by decide +kernel))
  obtain ⟨c10, i10, k10⟩ := u_known (C := RX10) (T := TX10) (N := 15) (n := 15) hts0 in_wsX100 (hts0 (.instantiable RX10 15) (by decide +kernel))
  obtain ⟨D, hcl⟩ : ∃ D : va_G, ∀ (k : Nat) (q : vw_C), vwCl[k]? = some q → u_Kn s q.1 q.2.1 q.2.2 (D.1 k) (D.2 k) := by
    refine ⟨(fun k => match k with | 0 => c0 | 1 => c1 | 2 => c2 | 3 => c3 | 4 => c4 | 5 => c5 | 6 => c6 | 7 => c7 | 8 => c8 | 9 => c9 | _ => c10, fun k => match k with | 0 => i0 | 1 => i1 | 2 => i2 | 3 => i3 | 4 => i4 | 5 => i5 | 6 => i6 | 7 => i7 | 8 => i8 | 9 => i9 | _ => i10), ?_⟩
    intro k q hq
    match k, hq with
    | 0, hq => cases hq; exact k0
    | 1, hq => cases hq; exact k1
    | 2, hq => cases hq; exact k2
    | 3, hq => cases hq; exact k3
    | 4, hq => cases hq; exact k4
    | 5, hq => cases hq; exact k5
    | 6, hq => cases hq; exact k6
    | 7, hq => cases hq; exact k7
    | 8, hq => cases hq; exact k8
    | 9, hq => cases hq; exact k9
    | 10, hq => cases hq; exact k10
    | k + 11, hq => simp [vwCl] at hq
  obtain ⟨a0, ka0, cm0, f0, g0, e0⟩ := Cond.arrayClass_spec (hts0 (.arrayClass .int) (by decide +kernel))
  obtain ⟨a1, ka1, cm1, f1, g1, e1⟩ := Cond.arrayClass_spec (hts0 (.arrayClass .boolean) (by decide +kernel))
  obtain ⟨a2, ka2, cm2, f2, g2, e2⟩ := Cond.arrayClass_spec (hts0 (.arrayClass .char) (by decide +kernel))
  obtain ⟨cm3, a3, ka3, f3, -, g3, e3, n3⟩ := Cond.arrayOver_spec (hts0 (.arrayOver (.object RX6)) (by decide +kernel))
  have hAO : va_AO RX6 s := va_AO.of (hts0 (.arrayOver (.object RX6)) (by decide +kernel))
  have m0 : ∀ j, j < 6 → (Cond.eq (.elem (.static "QuarryBlends" "FIRST_SETTINGS" "[I") (.int (Int32.ofNat j))) (.int (([3, 20, 8, 5, 50, 2] : List Int32).getD j 0))) ∈ flatC (Jvm.Cond.and given_1 narrow_1) := by decide +kernel
  have hl0 := va_eqt (hs (.eq (.length (.static "QuarryBlends" "FIRST_SETTINGS" "[I")) (.int 6)) (by decide +kernel))
  obtain ⟨t0, te0, T0⟩ := va_Tof (tm := (.static "QuarryBlends" "FIRST_SETTINGS" "[I")) (ty := .int) (N := 6) (f := fun j => .int (([3, 20, 8, 5, 50, 2] : List Int32).getD j 0)) (A := fun q => s.heap.size ≤ q) (by decide) (hs (.arrayOf (.static "QuarryBlends" "FIRST_SETTINGS" "[I") .int) (by decide +kernel)) hl0 (fun j hj => va_eqt (hs _ (m0 j hj))) hA
  have z0 := va_Zref (C := "QuarryBlends") (n := "FIRST_SETTINGS") (d := "[I") (A := fun q => s.heap.size ≤ q) (hts0 (.laysStatic "QuarryBlends" "FIRST_SETTINGS" "[I") (by decide +kernel)) (hts0 (.initialized "QuarryBlends") (by decide +kernel)) te0 hA
  have m1 : ∀ j, j < 6 → (Cond.eq (.elem (.static "QuarryBlends" "LEAST_SETTINGS" "[I") (.int (Int32.ofNat j))) (.int (([0, 1, 1, 1, 1, 0] : List Int32).getD j 0))) ∈ flatC (Jvm.Cond.and given_1 narrow_1) := by decide +kernel
  have hl1 := va_eqt (hs (.eq (.length (.static "QuarryBlends" "LEAST_SETTINGS" "[I")) (.int 6)) (by decide +kernel))
  obtain ⟨t1, te1, T1⟩ := va_Tof (tm := (.static "QuarryBlends" "LEAST_SETTINGS" "[I")) (ty := .int) (N := 6) (f := fun j => .int (([0, 1, 1, 1, 1, 0] : List Int32).getD j 0)) (A := fun q => s.heap.size ≤ q) (by decide) (hs (.arrayOf (.static "QuarryBlends" "LEAST_SETTINGS" "[I") .int) (by decide +kernel)) hl1 (fun j hj => va_eqt (hs _ (m1 j hj))) hA
  have z1 := va_Zref (C := "QuarryBlends") (n := "LEAST_SETTINGS") (d := "[I") (A := fun q => s.heap.size ≤ q) (hts0 (.laysStatic "QuarryBlends" "LEAST_SETTINGS" "[I") (by decide +kernel)) (hts0 (.initialized "QuarryBlends") (by decide +kernel)) te1 hA
  have m2 : ∀ j, j < 6 → (Cond.eq (.elem (.static "QuarryBlends" "MOST_SETTINGS" "[I") (.int (Int32.ofNat j))) (.int (([20, 40, 24, 9, 200, 99] : List Int32).getD j 0))) ∈ flatC (Jvm.Cond.and given_1 narrow_1) := by decide +kernel
  have hl2 := va_eqt (hs (.eq (.length (.static "QuarryBlends" "MOST_SETTINGS" "[I")) (.int 6)) (by decide +kernel))
  obtain ⟨t2, te2, T2⟩ := va_Tof (tm := (.static "QuarryBlends" "MOST_SETTINGS" "[I")) (ty := .int) (N := 6) (f := fun j => .int (([20, 40, 24, 9, 200, 99] : List Int32).getD j 0)) (A := fun q => s.heap.size ≤ q) (by decide) (hs (.arrayOf (.static "QuarryBlends" "MOST_SETTINGS" "[I") .int) (by decide +kernel)) hl2 (fun j hj => va_eqt (hs _ (m2 j hj))) hA
  have z2 := va_Zref (C := "QuarryBlends") (n := "MOST_SETTINGS") (d := "[I") (A := fun q => s.heap.size ≤ q) (hts0 (.laysStatic "QuarryBlends" "MOST_SETTINGS" "[I") (by decide +kernel)) (hts0 (.initialized "QuarryBlends") (by decide +kernel)) te2 hA
  have zc : va_Z "java/lang/String" "COMPACT_STRINGS" "Z" (.int 1) (fun q => s.heap.size ≤ q) s s.heap := va_Zof (hts0 (.laysStatic "java/lang/String" "COMPACT_STRINGS" "Z") (by decide +kernel)) (hts0 (.initialized "java/lang/String") (by decide +kernel)) (va_eqt (hs (.eq (.static "java/lang/String" "COMPACT_STRINGS" "Z") (.int 1)) (by decide +kernel))) hA
  obtain ⟨fm, zf⟩ : ∃ fm : Nat, va_Z "jdk/internal/util/Preconditions" "SIOOBE_FORMATTER" "Ljava/util/function/BiFunction;" (if fm = 0 then .null else .ref (fm - 1)) (fun q => s.heap.size ≤ q) s s.heap := by
    rcases va_Zqof (A := fun q => s.heap.size ≤ q) (hts0 (.laysStatic "jdk/internal/util/Preconditions" "SIOOBE_FORMATTER" "Ljava/util/function/BiFunction;") (by decide +kernel)) (hts0 (.initialized "jdk/internal/util/Preconditions") (by decide +kernel)) (hs (.isRef (.static "jdk/internal/util/Preconditions" "SIOOBE_FORMATTER" "Ljava/util/function/BiFunction;")) (by decide +kernel)) hA with h | ⟨t, h⟩
    · exact ⟨0, by rw [if_pos rfl]; exact h⟩
    · exact ⟨t + 1, by rw [if_neg (by omega)]; exact h⟩
  have hnest : qNest s := by
    have mm : ∀ w ∈ qNL, (Cond.methodLinkNest w.1 w.2.1 w.2.2 "QuarryBlends") ∈ lw_tbl := by decide +kernel
    exact fun w hw => va_Nw.of rfl (hts0 _ (mm w hw))
  have hfn : qFNest s := by
    have mm : ∀ w ∈ qFL, (Cond.fieldLinkNest RX6 w.1 "QuarryBlends" w.2 "[I" "QuarryBlends") ∈ lw_tbl := by decide +kernel
    exact fun w hw => va_Nw.of rfl (hts0 _ (mm w hw))
  have hca : va_Nw (.castable "[I" "java/lang/Cloneable") s := va_Nw.of rfl (hts0 _ (by decide +kernel))
  obtain ⟨tm, htm⟩ : ∃ tm : Nat → Term, tm = fun i => .string "QuarryBlends$Pad" (([46, 78, 80, 82, 84, 86] : List Nat).getD i 0) := ⟨_, rfl⟩
  have s1 : ∀ i, i < 6 → (Cond.exactly (.string "QuarryBlends$Pad" (([46, 78, 80, 82, 84, 86] : List Nat).getD i 0)) "java/lang/String") ∈ flatC (Jvm.Cond.and given_1 narrow_1) := by decide +kernel
  have s2 : ∀ i, i < 6 → (Cond.eq (.field (.string "QuarryBlends$Pad" (([46, 78, 80, 82, 84, 86] : List Nat).getD i 0)) "java/lang/String" "coder" "B") (.int 0)) ∈ flatC (Jvm.Cond.and given_1 narrow_1) := by decide +kernel
  have s3 : ∀ i, i < 6 → (Cond.arrayOf (.field (.string "QuarryBlends$Pad" (([46, 78, 80, 82, 84, 86] : List Nat).getD i 0)) "java/lang/String" "value" "[B") .byte) ∈ flatC (Jvm.Cond.and given_1 narrow_1) := by decide +kernel
  have s4 : ∀ i, i < 6 → (Cond.eq (.length (.field (.string "QuarryBlends$Pad" (([46, 78, 80, 82, 84, 86] : List Nat).getD i 0)) "java/lang/String" "value" "[B")) (.int (Int32.ofNat (qtl.getD i 0)))) ∈ flatC (Jvm.Cond.and given_1 narrow_1) := by decide +kernel
  have s5 : ∀ i, i < 6 → ∀ j, j < qtl.getD i 0 → (Cond.eq (.elem (.field (.string "QuarryBlends$Pad" (([46, 78, 80, 82, 84, 86] : List Nat).getD i 0)) "java/lang/String" "value" "[B") (.int (Int32.ofNat j))) (.int ((qtx.getD i []).getD j 0))) ∈ flatC (Jvm.Cond.and given_1 narrow_1) := by decide +kernel
  have s6 : ∀ i, i < 6 → ∀ j, j < 6 → i ≠ j → (Cond.not (Cond.eq (.string "QuarryBlends$Pad" (([46, 78, 80, 82, 84, 86] : List Nat).getD i 0)) (.string "QuarryBlends$Pad" (([46, 78, 80, 82, 84, 86] : List Nat).getD j 0)))) ∈ flatC (Jvm.Cond.and given_1 narrow_1) ∨ (Cond.not (Cond.eq (.string "QuarryBlends$Pad" (([46, 78, 80, 82, 84, 86] : List Nat).getD j 0)) (.string "QuarryBlends$Pad" (([46, 78, 80, 82, 84, 86] : List Nat).getD i 0)))) ∈ flatC (Jvm.Cond.and given_1 narrow_1) := by decide +kernel
  obtain ⟨adK, adV, hvk, hev⟩ := vk_Sof (args := #[Value.ref sb]) (s := s) (N := 6) (tm := fun i => .string "QuarryBlends$Pad" (([46, 78, 80, 82, 84, 86] : List Nat).getD i 0)) (len := qtl) (byt := qtx) (A := fun q => s.heap.size ≤ q) (by decide) (fun i hi => hs _ (s1 i hi)) (fun i hi => hs _ (s2 i hi)) (fun i hi => hs _ (s3 i hi)) (fun i hi => hs _ (s4 i hi)) (fun i hi j hj => hs _ (s5 i hi j hj)) (fun i j hi hj hij => (s6 i hi j hj hij).imp (fun h => hs _ h) (fun h => hs _ h)) hA
  have hsz : ∀ cell : Cell, s.heap[t0]? = some cell → cell.slots.size = 6 := by
    intro cell hc
    obtain ⟨b0, cell2, ht, harr, -⟩ := Term.length_spec hl0
    have hb : b0 = t0 := by cases ht.symm.trans te0; rfl
    subst hb
    obtain ⟨hcell, -, -, -⟩ := State.arrayAt?_spec harr
    have ec : cell2 = cell := Option.some.inj (hcell.symm.trans hc)
    subst ec
    have hlt : cell2.slots.size < 2147483648 := law_len hl0 ht harr
    obtain ⟨cell3, q1, -, -, -, q5, -⟩ := T0
    have ec : cell3 = cell2 := Option.some.inj (q1.symm.trans hcell)
    rw [ec] at q5
    exact (nI_eq hlt (by omega)).mp q5
  have hO : va_O "[I" t0 (fun q => s.heap.size ≤ q) s s.heap := by
    obtain ⟨a, c, cA, kA, q1, q2, q3, q4, q5, q6, -⟩ := Cond.exactly_spec (args := #[Value.ref sb]) (first := s) (o := none) (s := s) (idx := []) (t := .static "QuarryBlends" "FIRST_SETTINGS" "[I") (cls := "[I") (hs (.exactly (.static "QuarryBlends" "FIRST_SETTINGS" "[I") "[I") (by decide +kernel))
    have ha : a = t0 := by cases q1.symm.trans te0; rfl
    subst ha
    exact ⟨cA, q3, q5, by rw [q6]; exact q2, hA a (Array.getElem?_eq_some_iff.mp q3).1⟩
  refine ⟨(D, (fun k => match k with | 0 => a0 | 1 => a1 | 2 => a2 | _ => a3), (fun k => match k with | 0 => t0 | 1 => t1 | 2 => t2 | _ => fm), adK, adV), ⟨⟨hcl, ?_⟩, hnest, ?_, ?_, ?_, hvk, hca, hfn⟩, hO, hsz, hAO⟩
  · intro k q hk
    match k, hk with
    | 0, hk => cases hk; exact ⟨fun n z => ⟨fun k h => (by cases h), ka0, g0, cm0, e0⟩, f0⟩
    | 1, hk => cases hk; exact ⟨fun n z => ⟨fun k h => (by cases h), ka1, g1, cm1, e1⟩, f1⟩
    | 2, hk => cases hk; exact ⟨fun n z => ⟨fun k h => (by cases h), ka2, g2, cm2, e2⟩, f2⟩
    | 3, hk => cases hk; exact ⟨fun n z => ⟨fun k h => (by cases h), ka3, g3, cm3, e3⟩, ka3, cm3, g3, e3, f3, n3⟩
    | k + 4, hk => simp [qTY] at hk
  · intro z hz
    simp only [qZL, List.mem_cons, List.not_mem_nil, or_false] at hz
    rcases hz with rfl | rfl | rfl | rfl | rfl
    · exact z0
    · exact z1
    · exact z2
    · exact zc
    · exact zf
  · intro z hz
    simp only [qTL, List.mem_cons, List.not_mem_nil, or_false] at hz
    rcases hz with rfl | rfl | rfl
    · exact T0
    · exact T1
    · exact T2
  · intro z hz
    simp only [qRL, List.mem_cons, List.not_mem_nil, or_false] at hz
    rcases hz with rfl | rfl | rfl | rfl | rfl | rfl
    · exact vk_R.of (hts0 (.stringRef RX5 46 "fcgdmx") (by decide +kernel)) (hev 0 (by decide))
    · exact vk_R.of (hts0 (.stringRef RX5 78 "n*1+n") (by decide +kernel)) (hev 1 (by decide))
    · exact vk_R.of (hts0 (.stringRef RX5 80 "n:n-n/n-n$n") (by decide +kernel)) (hev 2 (by decide))
    · exact vk_R.of (hts0 (.stringRef RX5 82 "1") (by decide +kernel)) (hev 3 (by decide))
    · exact vk_R.of (hts0 (.stringRef RX5 84 "") (by decide +kernel)) (hev 4 (by decide))
    · exact vk_R.of (hts0 (.stringRef RX5 86 "n") (by decide +kernel)) (hev 5 (by decide))
