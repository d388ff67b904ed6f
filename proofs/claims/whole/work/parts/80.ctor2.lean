/-- a row of quarries told in other words -/
theorem q_row {G : qG} {A : Nat → Prop} {ws : va_W} {H : Heap} {k q n : Nat} {f g : Nat → Option Nat} (he : ws[k]? = some (q, .inl (G.2.1 3, n, .inr (.inr (.inr (.inr f)))))) (hfg : ∀ j, j < n → f j = g j) (hP : va_P G.1 vwCl ws H) (hD : va_D A ws) : va_P G.1 vwCl (ws.set k (q, .inl (G.2.1 3, n, .inr (.inr (.inr (.inr g)))))) H ∧ va_D A (ws.set k (q, .inl (G.2.1 3, n, .inr (.inr (.inr (.inr g)))))) := by
  have e : vp_cell (G.2.1 3) (n, .inr (.inr (.inr (.inr f)))) = vp_cell (G.2.1 3) (n, .inr (.inr (.inr (.inr g)))) := by
    show arrV (G.2.1 3) n (fun j => va_rf (f j)) = arrV (G.2.1 3) n (fun j => va_rf (g j))
    exact q_arrV (fun j hj => by rw [hfg j hj])
  exact q_set he (fun h => by
    show H[q]? = some (vp_cell (G.2.1 3) (n, .inr (.inr (.inr (.inr g)))))
    rw [← e]; exact h) hP hD
abbrev rmX4_init : Room := { frames := 3, cells := 127, slots := 1659, locals := 63 }
theorem lX4_init_c11 : Cond.classLink RX4 11 RX6 ∈ wsX4_init := by decide +kernel
theorem lX4_init_co : Cond.code objectInit ⟨#[0xb1]⟩ 1 none ∈ wsX4_init := by decide +kernel
theorem lX4_init_f13 : Cond.fieldLink RX4 13 "QuarryBlends$History" "states" "[LQuarryBlends$Quarry;" ∈ wsX4_init := by decide +kernel
theorem lX4_init_iX6 : Cond.instantiable RX6 10 ∈ wsX4_init := by decide +kernel
theorem lX4_init_io : Cond.instanceMethod objectInit ∈ wsX4_init := by decide +kernel
theorem lX4_init_m3 : Cond.methodLink RX4 3 objectInit ∈ wsX4_init := by decide +kernel
theorem lX4_init_nX6 : Cond.initialized RX6 ∈ wsX4_init := by decide +kernel
theorem lX4_init_yX6_init : Cond.instanceMethod yX6_init ∈ wsX4_init := by decide +kernel
theorem iX4_init_X4 : ∀ w ∈ wsX40, w ∈ wsX4_init := by decide +kernel
theorem iX4_init_X6 : ∀ w ∈ wsX60, w ∈ wsX4_init := by decide +kernel
set_option maxHeartbeats 4000000 in
set_option maxRecDepth 100000 in
theorem mX4_init (l : Launch) (G : qG) (h0 : Nat) (R : va_W) (sz : Nat) : Met l yX4_init wsX4_init rmX4_init (qPn G [.ref h0] ([(h0, .inr (4, [.null, .int 0, .int 0]))] ++ R) sz) (qQv G ([(h0, .inr (4, [.null, .int 0, .int 0]))] ++ R) sz (fun (u : (Nat → Nat) × (Nat → Nat → Nat)) => u.1 1 = h0) (fun (u : (Nat → Nat) × (Nat → Nat → Nat)) => [(u.1 1, .inr (4, [.ref (u.1 2), .int 0, .int 0])), (u.1 2, .inl (G.2.1 3, 7, .inr (.inr (.inr (.inr (fun j => some (u.2 j 0)))))))] ++ (wQ G (u.2 0) qI ++ (wQ G (u.2 1) qI ++ (wQ G (u.2 2) qI ++ (wQ G (u.2 3) qI ++ (wQ G (u.2 4) qI ++ (wQ G (u.2 5) qI ++ (wQ G (u.2 6) qI ++ R))))))))) 127 1659 (va_A ([(h0, .inr (4, [.null, .int 0, .int 0]))] ++ R) sz) := by
  refine Met.ofW (cc := cX4_init) (maxL := 2) (ret := none) (by decide) rfl ?_
  intro p e s m args below meth c s₁ B hml hv
  obtain ⟨rfl, hsz, hP, hD0, hKn0, hEx0⟩ := hv
  have hx := B.exec
  have hb := B.bytes
  have hr := B.returns
  have hts := atoms_spec (ws := wsX4_init) B.pre
  have hown : s.vm.findClass RX4 = some m.cls := findClass_of_methodNamed B.named
  have hlocks := B.notSynchronized
  have hin : meth.name = "<init>" := (name_of_methodNamed B.named B.method).1
  subst hsz
  have hD := hD0.self (sz := s.heap.size)
  generalize hAe : va_A ([(h0, .inr (4, [.null, .int 0, .int 0]))] ++ R) s.heap.size = A at hD hKn0 hEx0 ⊢
  have hA : ∀ q : Nat, s.heap.size ≤ q → A q := fun q h => by rw [← hAe]; exact Or.inr h
  have hKn : qKn G A s s.heap := hKn0
  have hEx : qEx G A s s.heap := hEx0
  have hS : va_S A s.heap s.heap [] := va_S.rf
  have hl := lv_entry ([.ref h0]) (n := 2) (Nat.le_of_ble_eq_true rfl)
  rw [lg_entry_eq]
  generalize (lg_sl ([.ref h0]) ++ List.replicate (2 - (lg_sl ([.ref h0])).length) Slot.unset).toArray = ls at hl ⊢
  have hl : lv_has ls 2 [(0, .ref h0)] := hl
  show W p l e rmX4_init s m #[.ref h0] below meth c s.heap [] 0 0 _ _
  refine lv_aload_n hx hb dX4_init_0 rfl (lv_at hl 0 rfl) ?_
  refine W.objInit hx hb hown (hts _ lX4_init_m3) (hts _ lX4_init_io) (hts _ lX4_init_co) rfl (by rw [hml]; exact hl.1) rfl dX4_init_1 (Nat.le_of_ble_eq_true rfl) (Nat.le_of_ble_eq_true rfl) ?_
  refine W.eq (g2 := F0 m 4 ls []) rfl ?_
  refine lv_aload_n hx hb dX4_init_4 rfl (lv_at hl 0 rfl) ?_
  refine lv_bipush (v := (7 : Int32)) hx hb dX4_init_5 (by decide) ?_
  refine q_newq (N' := 7) hx hb hown (hts _ lX4_init_c11) hP hD hS hA hKn hEx (by decide) (by decide) (Nat.le_of_ble_eq_true rfl) (Nat.le_of_ble_eq_true rfl) (Nat.le_of_ble_eq_true rfl) dX4_init_7 (fun q1 H hP hD hS => ?_)
  have hP : va_P G.1 vwCl ([(q1, .inl (G.2.1 3, 7, .inr (.inr (.inr (.inr (fun _ => none))))))] ++ ([(h0, .inr (4, [.null, .int 0, .int 0]))] ++ R)) H := hP
  have hD : va_D A ([(q1, .inl (G.2.1 3, 7, .inr (.inr (.inr (.inr (fun _ => none))))))] ++ ([(h0, .inr (4, [.null, .int 0, .int 0]))] ++ R)) := hD
  refine W.widen (k := 1) (n := 7) (Nat.le_of_ble_eq_true rfl) (Nat.le_of_ble_eq_true rfl) ?_
  refine va_putF (D := G.1) (ci := 4) (v := .ref q1) (ty := .array (.object "QuarryBlends$Quarry")) (C := RX4) (T := TX4) (N := 3) hx hb hts iX4_init_X4 tyX4 tyX4_ok nmX4 hown hKn.k hP hD hS 1 rfl rfl 0 (by decide) (hts _ lX4_init_f13) (fun _ h9 => h9) rfl hin rfl (by decide +kernel) rfl rfl (Nat.le_of_ble_eq_true rfl) dX4_init_10 (fun H locs hP hD hS => ?_)
  have hP : va_P G.1 vwCl ([(q1, .inl (G.2.1 3, 7, .inr (.inr (.inr (.inr (fun _ => none))))))] ++ ([(h0, .inr (4, [.ref q1, .int 0, .int 0]))] ++ R)) H := hP
  have hD : va_D A ([(q1, .inl (G.2.1 3, 7, .inr (.inr (.inr (.inr (fun _ => none))))))] ++ ([(h0, .inr (4, [.ref q1, .int 0, .int 0]))] ++ R)) := hD
  refine lv_iconst (v := (0 : Int32)) hx hb dX4_init_13 (by decide) ?_
  refine lv_istore_n (lv' := [(1, .int (0 : Int32)), (0, .ref h0)]) hx hb dX4_init_14 rfl hl (by decide) rfl (fun ls hl => ?_)
  refine lv_iload_n hx hb dX4_init_15 rfl (lv_at hl 0 rfl) ?_
  refine lv_bipush (v := (7 : Int32)) hx hb dX4_init_16 (by decide) ?_
  refine lv_icmp_ge (tgt := 40) hx hb dX4_init_18 (by decide) (fun c1 => absurd c1 (by decide)) (fun c1 => ?_)
  refine lv_aload_n hx hb dX4_init_21 rfl (lv_at hl 1 rfl) ?_
  refine va_get (D := G.1) (ci := 4) (v := .ref q1) (C := RX4) (T := TX4) (N := 3) hx hb hts iX4_init_X4 hown hKn.k hP 1 rfl rfl 0 (by decide) (hts _ lX4_init_f13) (fun _ h9 => h9) rfl dX4_init_22 ?_
  refine lv_iload_n hx hb dX4_init_25 rfl (lv_at hl 0 rfl) ?_
  refine q_new (ci := 6) (fs := [.null, .null, .null, .null, .null, .null, .int 0, .int 0, .int 0, .int 0]) (C := RX6) (T := TX6) (N := 10) hx hb hts iX4_init_X6 tyX6 tyX6_ok hown (hts _ lX4_init_c11) (hts _ lX4_init_iX6) (hts _ lX4_init_nX6) hP hD hS hA hKn rfl (by intro j hj; rcases (show j = 0 ∨ j = 1 ∨ j = 2 ∨ j = 3 ∨ j = 4 ∨ j = 5 ∨ j = 6 ∨ j = 7 ∨ j = 8 ∨ j = 9 by omega) with rfl | rfl | rfl | rfl | rfl | rfl | rfl | rfl | rfl | rfl <;> rfl) (Nat.le_of_ble_eq_true rfl) (Nat.le_of_ble_eq_true rfl) dX4_init_26 (fun q2 H hP hD hS => ?_)
  have hP : va_P G.1 vwCl ([(q2, .inr (6, [.null, .null, .null, .null, .null, .null, .int 0, .int 0, .int 0, .int 0]))] ++ ([(q1, .inl (G.2.1 3, 7, .inr (.inr (.inr (.inr (fun _ => none))))))] ++ ([(h0, .inr (4, [.ref q1, .int 0, .int 0]))] ++ R))) H := hP
  have hD : va_D A ([(q2, .inr (6, [.null, .null, .null, .null, .null, .null, .int 0, .int 0, .int 0, .int 0]))] ++ ([(q1, .inl (G.2.1 3, 7, .inr (.inr (.inr (.inr (fun _ => none))))))] ++ ([(h0, .inr (4, [.ref q1, .int 0, .int 0]))] ++ R))) := hD
  refine W.widen (k := 2) (n := 17) (Nat.le_of_ble_eq_true rfl) (Nat.le_of_ble_eq_true rfl) ?_
  refine lv_dup hx hb dX4_init_29 rfl ?_
  refine qc_IN (As := []) (rest := [.ref q2, .int (0 : Int32), .ref q1]) ⟨hx, hb, hml, hown, hts⟩ (mX6_init l G q2 ([(q1, .inl (G.2.1 3, 7, .inr (.inr (.inr (.inr (fun _ => none))))))] ++ ([(h0, .inr (4, [.ref q1, .int 0, .int 0]))] ++ R)) _) ⟨va_cnB 0 hts gX4_init_X6_init_n17 rfl rfl rfl (hKn.2.1 _ (List.mem_of_getElem? (i := 5) rfl)) (hts _ lX4_init_nX6) (by decide +kernel) ⟨Nat.le_of_ble_eq_true rfl, Nat.le_of_ble_eq_true rfl⟩, rfl, (hts _ lX4_init_yX6_init)⟩ hP hD hS hA hKn hEx rfl hl.1 rfl (Nat.le_of_ble_eq_true rfl) dX4_init_30 ⟨Nat.le_of_ble_eq_true rfl, Nat.le_of_ble_eq_true rfl⟩ (fun u3 H locs hu hP hD hS => ?_)
  have hu : u3 0 = q2 := hu
  rw [← hu]
  have hP : va_P G.1 vwCl (wQ G u3 qI ++ ([(q1, .inl (G.2.1 3, 7, .inr (.inr (.inr (.inr (fun _ => none))))))] ++ ([(h0, .inr (4, [.ref q1, .int 0, .int 0]))] ++ R))) H := hP
  have hD : va_D A (wQ G u3 qI ++ ([(q1, .inl (G.2.1 3, 7, .inr (.inr (.inr (.inr (fun _ => none))))))] ++ ([(h0, .inr (4, [.ref q1, .int 0, .int 0]))] ++ R))) := hD
  refine W.widen (k := 19) (n := 243) (Nat.le_of_ble_eq_true rfl) (Nat.le_of_ble_eq_true rfl) ?_
  refine va_astq hx hb hKn.k hP hD hS 18 3 0 6 rfl rfl rfl rfl (by unfold vp_in; decide) dX4_init_33 (fun H locs hP hD hS => ?_)
  have hP : va_P G.1 vwCl (wQ G u3 qI ++ ([(q1, .inl (G.2.1 3, 7, .inr (.inr (.inr (.inr (va_up (fun _ => none) (Int32.toNatClampNeg (0 : Int32)) (some (u3 0))))))))] ++ ([(h0, .inr (4, [.ref q1, .int 0, .int 0]))] ++ R))) H := hP
  have hD : va_D A (wQ G u3 qI ++ ([(q1, .inl (G.2.1 3, 7, .inr (.inr (.inr (.inr (va_up (fun _ => none) (Int32.toNatClampNeg (0 : Int32)) (some (u3 0))))))))] ++ ([(h0, .inr (4, [.ref q1, .int 0, .int 0]))] ++ R))) := hD
  refine lv_iinc (v := (1 : Int32)) (lv' := [(1, .int (1 : Int32)), (0, .ref h0)]) hx hb dX4_init_34 hl (k := 0) rfl (by decide) (by decide) rfl (fun ls hl => ?_)
  refine lv_goto (tgt := 15) hx hb dX4_init_37 (by decide) ?_
  refine lv_iload_n hx hb dX4_init_15 rfl (lv_at hl 0 rfl) ?_
  refine lv_bipush (v := (7 : Int32)) hx hb dX4_init_16 (by decide) ?_
  refine lv_icmp_ge (tgt := 40) hx hb dX4_init_18 (by decide) (fun c1 => absurd c1 (by decide)) (fun c1 => ?_)
  refine lv_aload_n hx hb dX4_init_21 rfl (lv_at hl 1 rfl) ?_
  refine va_get (D := G.1) (ci := 4) (v := .ref q1) (C := RX4) (T := TX4) (N := 3) hx hb hts iX4_init_X4 hown hKn.k hP 19 rfl rfl 0 (by decide) (hts _ lX4_init_f13) (fun _ h9 => h9) rfl dX4_init_22 ?_
  refine lv_iload_n hx hb dX4_init_25 rfl (lv_at hl 0 rfl) ?_
  refine q_new (ci := 6) (fs := [.null, .null, .null, .null, .null, .null, .int 0, .int 0, .int 0, .int 0]) (C := RX6) (T := TX6) (N := 10) hx hb hts iX4_init_X6 tyX6 tyX6_ok hown (hts _ lX4_init_c11) (hts _ lX4_init_iX6) (hts _ lX4_init_nX6) hP hD hS hA hKn rfl (by intro j hj; rcases (show j = 0 ∨ j = 1 ∨ j = 2 ∨ j = 3 ∨ j = 4 ∨ j = 5 ∨ j = 6 ∨ j = 7 ∨ j = 8 ∨ j = 9 by omega) with rfl | rfl | rfl | rfl | rfl | rfl | rfl | rfl | rfl | rfl <;> rfl) (Nat.le_of_ble_eq_true rfl) (Nat.le_of_ble_eq_true rfl) dX4_init_26 (fun q4 H hP hD hS => ?_)
  have hP : va_P G.1 vwCl ([(q4, .inr (6, [.null, .null, .null, .null, .null, .null, .int 0, .int 0, .int 0, .int 0]))] ++ (wQ G u3 qI ++ ([(q1, .inl (G.2.1 3, 7, .inr (.inr (.inr (.inr (va_up (fun _ => none) (Int32.toNatClampNeg (0 : Int32)) (some (u3 0))))))))] ++ ([(h0, .inr (4, [.ref q1, .int 0, .int 0]))] ++ R)))) H := hP
  have hD : va_D A ([(q4, .inr (6, [.null, .null, .null, .null, .null, .null, .int 0, .int 0, .int 0, .int 0]))] ++ (wQ G u3 qI ++ ([(q1, .inl (G.2.1 3, 7, .inr (.inr (.inr (.inr (va_up (fun _ => none) (Int32.toNatClampNeg (0 : Int32)) (some (u3 0))))))))] ++ ([(h0, .inr (4, [.ref q1, .int 0, .int 0]))] ++ R)))) := hD
  refine W.widen (k := 20) (n := 253) (Nat.le_of_ble_eq_true rfl) (Nat.le_of_ble_eq_true rfl) ?_
  refine lv_dup hx hb dX4_init_29 rfl ?_
  refine qc_IN (As := []) (rest := [.ref q4, .int (1 : Int32), .ref q1]) ⟨hx, hb, hml, hown, hts⟩ (mX6_init l G q4 (wQ G u3 qI ++ ([(q1, .inl (G.2.1 3, 7, .inr (.inr (.inr (.inr (va_up (fun _ => none) (Int32.toNatClampNeg (0 : Int32)) (some (u3 0))))))))] ++ ([(h0, .inr (4, [.ref q1, .int 0, .int 0]))] ++ R))) _) ⟨va_cnB 0 hts gX4_init_X6_init_n17 rfl rfl rfl (hKn.2.1 _ (List.mem_of_getElem? (i := 5) rfl)) (hts _ lX4_init_nX6) (by decide +kernel) ⟨Nat.le_of_ble_eq_true rfl, Nat.le_of_ble_eq_true rfl⟩, rfl, (hts _ lX4_init_yX6_init)⟩ hP hD hS hA hKn hEx rfl hl.1 rfl (Nat.le_of_ble_eq_true rfl) dX4_init_30 ⟨Nat.le_of_ble_eq_true rfl, Nat.le_of_ble_eq_true rfl⟩ (fun u5 H locs hu hP hD hS => ?_)
  have hu : u5 0 = q4 := hu
  rw [← hu]
  have hP : va_P G.1 vwCl (wQ G u5 qI ++ (wQ G u3 qI ++ ([(q1, .inl (G.2.1 3, 7, .inr (.inr (.inr (.inr (va_up (fun _ => none) (Int32.toNatClampNeg (0 : Int32)) (some (u3 0))))))))] ++ ([(h0, .inr (4, [.ref q1, .int 0, .int 0]))] ++ R)))) H := hP
  have hD : va_D A (wQ G u5 qI ++ (wQ G u3 qI ++ ([(q1, .inl (G.2.1 3, 7, .inr (.inr (.inr (.inr (va_up (fun _ => none) (Int32.toNatClampNeg (0 : Int32)) (some (u3 0))))))))] ++ ([(h0, .inr (4, [.ref q1, .int 0, .int 0]))] ++ R)))) := hD
  refine W.widen (k := 37) (n := 479) (Nat.le_of_ble_eq_true rfl) (Nat.le_of_ble_eq_true rfl) ?_
  refine va_astq hx hb hKn.k hP hD hS 36 3 0 6 rfl rfl rfl rfl (by unfold vp_in; decide) dX4_init_33 (fun H locs hP hD hS => ?_)
  have hP : va_P G.1 vwCl (wQ G u5 qI ++ (wQ G u3 qI ++ ([(q1, .inl (G.2.1 3, 7, .inr (.inr (.inr (.inr (va_up (va_up (fun _ => none) (Int32.toNatClampNeg (0 : Int32)) (some (u3 0))) (Int32.toNatClampNeg (1 : Int32)) (some (u5 0))))))))] ++ ([(h0, .inr (4, [.ref q1, .int 0, .int 0]))] ++ R)))) H := hP
  have hD : va_D A (wQ G u5 qI ++ (wQ G u3 qI ++ ([(q1, .inl (G.2.1 3, 7, .inr (.inr (.inr (.inr (va_up (va_up (fun _ => none) (Int32.toNatClampNeg (0 : Int32)) (some (u3 0))) (Int32.toNatClampNeg (1 : Int32)) (some (u5 0))))))))] ++ ([(h0, .inr (4, [.ref q1, .int 0, .int 0]))] ++ R)))) := hD
  refine lv_iinc (v := (2 : Int32)) (lv' := [(1, .int (2 : Int32)), (0, .ref h0)]) hx hb dX4_init_34 hl (k := 0) rfl (by decide) (by decide) rfl (fun ls hl => ?_)
  refine lv_goto (tgt := 15) hx hb dX4_init_37 (by decide) ?_
  refine lv_iload_n hx hb dX4_init_15 rfl (lv_at hl 0 rfl) ?_
  refine lv_bipush (v := (7 : Int32)) hx hb dX4_init_16 (by decide) ?_
  refine lv_icmp_ge (tgt := 40) hx hb dX4_init_18 (by decide) (fun c1 => absurd c1 (by decide)) (fun c1 => ?_)
  refine lv_aload_n hx hb dX4_init_21 rfl (lv_at hl 1 rfl) ?_
  refine va_get (D := G.1) (ci := 4) (v := .ref q1) (C := RX4) (T := TX4) (N := 3) hx hb hts iX4_init_X4 hown hKn.k hP 37 rfl rfl 0 (by decide) (hts _ lX4_init_f13) (fun _ h9 => h9) rfl dX4_init_22 ?_
  refine lv_iload_n hx hb dX4_init_25 rfl (lv_at hl 0 rfl) ?_
  refine q_new (ci := 6) (fs := [.null, .null, .null, .null, .null, .null, .int 0, .int 0, .int 0, .int 0]) (C := RX6) (T := TX6) (N := 10) hx hb hts iX4_init_X6 tyX6 tyX6_ok hown (hts _ lX4_init_c11) (hts _ lX4_init_iX6) (hts _ lX4_init_nX6) hP hD hS hA hKn rfl (by intro j hj; rcases (show j = 0 ∨ j = 1 ∨ j = 2 ∨ j = 3 ∨ j = 4 ∨ j = 5 ∨ j = 6 ∨ j = 7 ∨ j = 8 ∨ j = 9 by omega) with rfl | rfl | rfl | rfl | rfl | rfl | rfl | rfl | rfl | rfl <;> rfl) (Nat.le_of_ble_eq_true rfl) (Nat.le_of_ble_eq_true rfl) dX4_init_26 (fun q6 H hP hD hS => ?_)
  have hP : va_P G.1 vwCl ([(q6, .inr (6, [.null, .null, .null, .null, .null, .null, .int 0, .int 0, .int 0, .int 0]))] ++ (wQ G u5 qI ++ (wQ G u3 qI ++ ([(q1, .inl (G.2.1 3, 7, .inr (.inr (.inr (.inr (va_up (va_up (fun _ => none) (Int32.toNatClampNeg (0 : Int32)) (some (u3 0))) (Int32.toNatClampNeg (1 : Int32)) (some (u5 0))))))))] ++ ([(h0, .inr (4, [.ref q1, .int 0, .int 0]))] ++ R))))) H := hP
  have hD : va_D A ([(q6, .inr (6, [.null, .null, .null, .null, .null, .null, .int 0, .int 0, .int 0, .int 0]))] ++ (wQ G u5 qI ++ (wQ G u3 qI ++ ([(q1, .inl (G.2.1 3, 7, .inr (.inr (.inr (.inr (va_up (va_up (fun _ => none) (Int32.toNatClampNeg (0 : Int32)) (some (u3 0))) (Int32.toNatClampNeg (1 : Int32)) (some (u5 0))))))))] ++ ([(h0, .inr (4, [.ref q1, .int 0, .int 0]))] ++ R))))) := hD
  refine W.widen (k := 38) (n := 489) (Nat.le_of_ble_eq_true rfl) (Nat.le_of_ble_eq_true rfl) ?_
  refine lv_dup hx hb dX4_init_29 rfl ?_
  refine qc_IN (As := []) (rest := [.ref q6, .int (2 : Int32), .ref q1]) ⟨hx, hb, hml, hown, hts⟩ (mX6_init l G q6 (wQ G u5 qI ++ (wQ G u3 qI ++ ([(q1, .inl (G.2.1 3, 7, .inr (.inr (.inr (.inr (va_up (va_up (fun _ => none) (Int32.toNatClampNeg (0 : Int32)) (some (u3 0))) (Int32.toNatClampNeg (1 : Int32)) (some (u5 0))))))))] ++ ([(h0, .inr (4, [.ref q1, .int 0, .int 0]))] ++ R)))) _) ⟨va_cnB 0 hts gX4_init_X6_init_n17 rfl rfl rfl (hKn.2.1 _ (List.mem_of_getElem? (i := 5) rfl)) (hts _ lX4_init_nX6) (by decide +kernel) ⟨Nat.le_of_ble_eq_true rfl, Nat.le_of_ble_eq_true rfl⟩, rfl, (hts _ lX4_init_yX6_init)⟩ hP hD hS hA hKn hEx rfl hl.1 rfl (Nat.le_of_ble_eq_true rfl) dX4_init_30 ⟨Nat.le_of_ble_eq_true rfl, Nat.le_of_ble_eq_true rfl⟩ (fun u7 H locs hu hP hD hS => ?_)
  have hu : u7 0 = q6 := hu
  rw [← hu]
  have hP : va_P G.1 vwCl (wQ G u7 qI ++ (wQ G u5 qI ++ (wQ G u3 qI ++ ([(q1, .inl (G.2.1 3, 7, .inr (.inr (.inr (.inr (va_up (va_up (fun _ => none) (Int32.toNatClampNeg (0 : Int32)) (some (u3 0))) (Int32.toNatClampNeg (1 : Int32)) (some (u5 0))))))))] ++ ([(h0, .inr (4, [.ref q1, .int 0, .int 0]))] ++ R))))) H := hP
  have hD : va_D A (wQ G u7 qI ++ (wQ G u5 qI ++ (wQ G u3 qI ++ ([(q1, .inl (G.2.1 3, 7, .inr (.inr (.inr (.inr (va_up (va_up (fun _ => none) (Int32.toNatClampNeg (0 : Int32)) (some (u3 0))) (Int32.toNatClampNeg (1 : Int32)) (some (u5 0))))))))] ++ ([(h0, .inr (4, [.ref q1, .int 0, .int 0]))] ++ R))))) := hD
  refine W.widen (k := 55) (n := 715) (Nat.le_of_ble_eq_true rfl) (Nat.le_of_ble_eq_true rfl) ?_
  refine va_astq hx hb hKn.k hP hD hS 54 3 0 6 rfl rfl rfl rfl (by unfold vp_in; decide) dX4_init_33 (fun H locs hP hD hS => ?_)
  have hP : va_P G.1 vwCl (wQ G u7 qI ++ (wQ G u5 qI ++ (wQ G u3 qI ++ ([(q1, .inl (G.2.1 3, 7, .inr (.inr (.inr (.inr (va_up (va_up (va_up (fun _ => none) (Int32.toNatClampNeg (0 : Int32)) (some (u3 0))) (Int32.toNatClampNeg (1 : Int32)) (some (u5 0))) (Int32.toNatClampNeg (2 : Int32)) (some (u7 0))))))))] ++ ([(h0, .inr (4, [.ref q1, .int 0, .int 0]))] ++ R))))) H := hP
  have hD : va_D A (wQ G u7 qI ++ (wQ G u5 qI ++ (wQ G u3 qI ++ ([(q1, .inl (G.2.1 3, 7, .inr (.inr (.inr (.inr (va_up (va_up (va_up (fun _ => none) (Int32.toNatClampNeg (0 : Int32)) (some (u3 0))) (Int32.toNatClampNeg (1 : Int32)) (some (u5 0))) (Int32.toNatClampNeg (2 : Int32)) (some (u7 0))))))))] ++ ([(h0, .inr (4, [.ref q1, .int 0, .int 0]))] ++ R))))) := hD
  refine lv_iinc (v := (3 : Int32)) (lv' := [(1, .int (3 : Int32)), (0, .ref h0)]) hx hb dX4_init_34 hl (k := 0) rfl (by decide) (by decide) rfl (fun ls hl => ?_)
  refine lv_goto (tgt := 15) hx hb dX4_init_37 (by decide) ?_
  refine lv_iload_n hx hb dX4_init_15 rfl (lv_at hl 0 rfl) ?_
  refine lv_bipush (v := (7 : Int32)) hx hb dX4_init_16 (by decide) ?_
  refine lv_icmp_ge (tgt := 40) hx hb dX4_init_18 (by decide) (fun c1 => absurd c1 (by decide)) (fun c1 => ?_)
  refine lv_aload_n hx hb dX4_init_21 rfl (lv_at hl 1 rfl) ?_
  refine va_get (D := G.1) (ci := 4) (v := .ref q1) (C := RX4) (T := TX4) (N := 3) hx hb hts iX4_init_X4 hown hKn.k hP 55 rfl rfl 0 (by decide) (hts _ lX4_init_f13) (fun _ h9 => h9) rfl dX4_init_22 ?_
  refine lv_iload_n hx hb dX4_init_25 rfl (lv_at hl 0 rfl) ?_
  refine q_new (ci := 6) (fs := [.null, .null, .null, .null, .null, .null, .int 0, .int 0, .int 0, .int 0]) (C := RX6) (T := TX6) (N := 10) hx hb hts iX4_init_X6 tyX6 tyX6_ok hown (hts _ lX4_init_c11) (hts _ lX4_init_iX6) (hts _ lX4_init_nX6) hP hD hS hA hKn rfl (by intro j hj; rcases (show j = 0 ∨ j = 1 ∨ j = 2 ∨ j = 3 ∨ j = 4 ∨ j = 5 ∨ j = 6 ∨ j = 7 ∨ j = 8 ∨ j = 9 by omega) with rfl | rfl | rfl | rfl | rfl | rfl | rfl | rfl | rfl | rfl <;> rfl) (Nat.le_of_ble_eq_true rfl) (Nat.le_of_ble_eq_true rfl) dX4_init_26 (fun q8 H hP hD hS => ?_)
  have hP : va_P G.1 vwCl ([(q8, .inr (6, [.null, .null, .null, .null, .null, .null, .int 0, .int 0, .int 0, .int 0]))] ++ (wQ G u7 qI ++ (wQ G u5 qI ++ (wQ G u3 qI ++ ([(q1, .inl (G.2.1 3, 7, .inr (.inr (.inr (.inr (va_up (va_up (va_up (fun _ => none) (Int32.toNatClampNeg (0 : Int32)) (some (u3 0))) (Int32.toNatClampNeg (1 : Int32)) (some (u5 0))) (Int32.toNatClampNeg (2 : Int32)) (some (u7 0))))))))] ++ ([(h0, .inr (4, [.ref q1, .int 0, .int 0]))] ++ R)))))) H := hP
  have hD : va_D A ([(q8, .inr (6, [.null, .null, .null, .null, .null, .null, .int 0, .int 0, .int 0, .int 0]))] ++ (wQ G u7 qI ++ (wQ G u5 qI ++ (wQ G u3 qI ++ ([(q1, .inl (G.2.1 3, 7, .inr (.inr (.inr (.inr (va_up (va_up (va_up (fun _ => none) (Int32.toNatClampNeg (0 : Int32)) (some (u3 0))) (Int32.toNatClampNeg (1 : Int32)) (some (u5 0))) (Int32.toNatClampNeg (2 : Int32)) (some (u7 0))))))))] ++ ([(h0, .inr (4, [.ref q1, .int 0, .int 0]))] ++ R)))))) := hD
  refine W.widen (k := 56) (n := 725) (Nat.le_of_ble_eq_true rfl) (Nat.le_of_ble_eq_true rfl) ?_
  refine lv_dup hx hb dX4_init_29 rfl ?_
  refine qc_IN (As := []) (rest := [.ref q8, .int (3 : Int32), .ref q1]) ⟨hx, hb, hml, hown, hts⟩ (mX6_init l G q8 (wQ G u7 qI ++ (wQ G u5 qI ++ (wQ G u3 qI ++ ([(q1, .inl (G.2.1 3, 7, .inr (.inr (.inr (.inr (va_up (va_up (va_up (fun _ => none) (Int32.toNatClampNeg (0 : Int32)) (some (u3 0))) (Int32.toNatClampNeg (1 : Int32)) (some (u5 0))) (Int32.toNatClampNeg (2 : Int32)) (some (u7 0))))))))] ++ ([(h0, .inr (4, [.ref q1, .int 0, .int 0]))] ++ R))))) _) ⟨va_cnB 0 hts gX4_init_X6_init_n17 rfl rfl rfl (hKn.2.1 _ (List.mem_of_getElem? (i := 5) rfl)) (hts _ lX4_init_nX6) (by decide +kernel) ⟨Nat.le_of_ble_eq_true rfl, Nat.le_of_ble_eq_true rfl⟩, rfl, (hts _ lX4_init_yX6_init)⟩ hP hD hS hA hKn hEx rfl hl.1 rfl (Nat.le_of_ble_eq_true rfl) dX4_init_30 ⟨Nat.le_of_ble_eq_true rfl, Nat.le_of_ble_eq_true rfl⟩ (fun u9 H locs hu hP hD hS => ?_)
  have hu : u9 0 = q8 := hu
  rw [← hu]
  have hP : va_P G.1 vwCl (wQ G u9 qI ++ (wQ G u7 qI ++ (wQ G u5 qI ++ (wQ G u3 qI ++ ([(q1, .inl (G.2.1 3, 7, .inr (.inr (.inr (.inr (va_up (va_up (va_up (fun _ => none) (Int32.toNatClampNeg (0 : Int32)) (some (u3 0))) (Int32.toNatClampNeg (1 : Int32)) (some (u5 0))) (Int32.toNatClampNeg (2 : Int32)) (some (u7 0))))))))] ++ ([(h0, .inr (4, [.ref q1, .int 0, .int 0]))] ++ R)))))) H := hP
  have hD : va_D A (wQ G u9 qI ++ (wQ G u7 qI ++ (wQ G u5 qI ++ (wQ G u3 qI ++ ([(q1, .inl (G.2.1 3, 7, .inr (.inr (.inr (.inr (va_up (va_up (va_up (fun _ => none) (Int32.toNatClampNeg (0 : Int32)) (some (u3 0))) (Int32.toNatClampNeg (1 : Int32)) (some (u5 0))) (Int32.toNatClampNeg (2 : Int32)) (some (u7 0))))))))] ++ ([(h0, .inr (4, [.ref q1, .int 0, .int 0]))] ++ R)))))) := hD
  refine W.widen (k := 73) (n := 951) (Nat.le_of_ble_eq_true rfl) (Nat.le_of_ble_eq_true rfl) ?_
  refine va_astq hx hb hKn.k hP hD hS 72 3 0 6 rfl rfl rfl rfl (by unfold vp_in; decide) dX4_init_33 (fun H locs hP hD hS => ?_)
  have hP : va_P G.1 vwCl (wQ G u9 qI ++ (wQ G u7 qI ++ (wQ G u5 qI ++ (wQ G u3 qI ++ ([(q1, .inl (G.2.1 3, 7, .inr (.inr (.inr (.inr (va_up (va_up (va_up (va_up (fun _ => none) (Int32.toNatClampNeg (0 : Int32)) (some (u3 0))) (Int32.toNatClampNeg (1 : Int32)) (some (u5 0))) (Int32.toNatClampNeg (2 : Int32)) (some (u7 0))) (Int32.toNatClampNeg (3 : Int32)) (some (u9 0))))))))] ++ ([(h0, .inr (4, [.ref q1, .int 0, .int 0]))] ++ R)))))) H := hP
  have hD : va_D A (wQ G u9 qI ++ (wQ G u7 qI ++ (wQ G u5 qI ++ (wQ G u3 qI ++ ([(q1, .inl (G.2.1 3, 7, .inr (.inr (.inr (.inr (va_up (va_up (va_up (va_up (fun _ => none) (Int32.toNatClampNeg (0 : Int32)) (some (u3 0))) (Int32.toNatClampNeg (1 : Int32)) (some (u5 0))) (Int32.toNatClampNeg (2 : Int32)) (some (u7 0))) (Int32.toNatClampNeg (3 : Int32)) (some (u9 0))))))))] ++ ([(h0, .inr (4, [.ref q1, .int 0, .int 0]))] ++ R)))))) := hD
  refine lv_iinc (v := (4 : Int32)) (lv' := [(1, .int (4 : Int32)), (0, .ref h0)]) hx hb dX4_init_34 hl (k := 0) rfl (by decide) (by decide) rfl (fun ls hl => ?_)
  refine lv_goto (tgt := 15) hx hb dX4_init_37 (by decide) ?_
  refine lv_iload_n hx hb dX4_init_15 rfl (lv_at hl 0 rfl) ?_
  refine lv_bipush (v := (7 : Int32)) hx hb dX4_init_16 (by decide) ?_
  refine lv_icmp_ge (tgt := 40) hx hb dX4_init_18 (by decide) (fun c1 => absurd c1 (by decide)) (fun c1 => ?_)
  refine lv_aload_n hx hb dX4_init_21 rfl (lv_at hl 1 rfl) ?_
  refine va_get (D := G.1) (ci := 4) (v := .ref q1) (C := RX4) (T := TX4) (N := 3) hx hb hts iX4_init_X4 hown hKn.k hP 73 rfl rfl 0 (by decide) (hts _ lX4_init_f13) (fun _ h9 => h9) rfl dX4_init_22 ?_
  refine lv_iload_n hx hb dX4_init_25 rfl (lv_at hl 0 rfl) ?_
  refine q_new (ci := 6) (fs := [.null, .null, .null, .null, .null, .null, .int 0, .int 0, .int 0, .int 0]) (C := RX6) (T := TX6) (N := 10) hx hb hts iX4_init_X6 tyX6 tyX6_ok hown (hts _ lX4_init_c11) (hts _ lX4_init_iX6) (hts _ lX4_init_nX6) hP hD hS hA hKn rfl (by intro j hj; rcases (show j = 0 ∨ j = 1 ∨ j = 2 ∨ j = 3 ∨ j = 4 ∨ j = 5 ∨ j = 6 ∨ j = 7 ∨ j = 8 ∨ j = 9 by omega) with rfl | rfl | rfl | rfl | rfl | rfl | rfl | rfl | rfl | rfl <;> rfl) (Nat.le_of_ble_eq_true rfl) (Nat.le_of_ble_eq_true rfl) dX4_init_26 (fun q10 H hP hD hS => ?_)
  have hP : va_P G.1 vwCl ([(q10, .inr (6, [.null, .null, .null, .null, .null, .null, .int 0, .int 0, .int 0, .int 0]))] ++ (wQ G u9 qI ++ (wQ G u7 qI ++ (wQ G u5 qI ++ (wQ G u3 qI ++ ([(q1, .inl (G.2.1 3, 7, .inr (.inr (.inr (.inr (va_up (va_up (va_up (va_up (fun _ => none) (Int32.toNatClampNeg (0 : Int32)) (some (u3 0))) (Int32.toNatClampNeg (1 : Int32)) (some (u5 0))) (Int32.toNatClampNeg (2 : Int32)) (some (u7 0))) (Int32.toNatClampNeg (3 : Int32)) (some (u9 0))))))))] ++ ([(h0, .inr (4, [.ref q1, .int 0, .int 0]))] ++ R))))))) H := hP
  have hD : va_D A ([(q10, .inr (6, [.null, .null, .null, .null, .null, .null, .int 0, .int 0, .int 0, .int 0]))] ++ (wQ G u9 qI ++ (wQ G u7 qI ++ (wQ G u5 qI ++ (wQ G u3 qI ++ ([(q1, .inl (G.2.1 3, 7, .inr (.inr (.inr (.inr (va_up (va_up (va_up (va_up (fun _ => none) (Int32.toNatClampNeg (0 : Int32)) (some (u3 0))) (Int32.toNatClampNeg (1 : Int32)) (some (u5 0))) (Int32.toNatClampNeg (2 : Int32)) (some (u7 0))) (Int32.toNatClampNeg (3 : Int32)) (some (u9 0))))))))] ++ ([(h0, .inr (4, [.ref q1, .int 0, .int 0]))] ++ R))))))) := hD
  refine W.widen (k := 74) (n := 961) (Nat.le_of_ble_eq_true rfl) (Nat.le_of_ble_eq_true rfl) ?_
  refine lv_dup hx hb dX4_init_29 rfl ?_
  refine qc_IN (As := []) (rest := [.ref q10, .int (4 : Int32), .ref q1]) ⟨hx, hb, hml, hown, hts⟩ (mX6_init l G q10 (wQ G u9 qI ++ (wQ G u7 qI ++ (wQ G u5 qI ++ (wQ G u3 qI ++ ([(q1, .inl (G.2.1 3, 7, .inr (.inr (.inr (.inr (va_up (va_up (va_up (va_up (fun _ => none) (Int32.toNatClampNeg (0 : Int32)) (some (u3 0))) (Int32.toNatClampNeg (1 : Int32)) (some (u5 0))) (Int32.toNatClampNeg (2 : Int32)) (some (u7 0))) (Int32.toNatClampNeg (3 : Int32)) (some (u9 0))))))))] ++ ([(h0, .inr (4, [.ref q1, .int 0, .int 0]))] ++ R)))))) _) ⟨va_cnB 0 hts gX4_init_X6_init_n17 rfl rfl rfl (hKn.2.1 _ (List.mem_of_getElem? (i := 5) rfl)) (hts _ lX4_init_nX6) (by decide +kernel) ⟨Nat.le_of_ble_eq_true rfl, Nat.le_of_ble_eq_true rfl⟩, rfl, (hts _ lX4_init_yX6_init)⟩ hP hD hS hA hKn hEx rfl hl.1 rfl (Nat.le_of_ble_eq_true rfl) dX4_init_30 ⟨Nat.le_of_ble_eq_true rfl, Nat.le_of_ble_eq_true rfl⟩ (fun u11 H locs hu hP hD hS => ?_)
  have hu : u11 0 = q10 := hu
  rw [← hu]
  have hP : va_P G.1 vwCl (wQ G u11 qI ++ (wQ G u9 qI ++ (wQ G u7 qI ++ (wQ G u5 qI ++ (wQ G u3 qI ++ ([(q1, .inl (G.2.1 3, 7, .inr (.inr (.inr (.inr (va_up (va_up (va_up (va_up (fun _ => none) (Int32.toNatClampNeg (0 : Int32)) (some (u3 0))) (Int32.toNatClampNeg (1 : Int32)) (some (u5 0))) (Int32.toNatClampNeg (2 : Int32)) (some (u7 0))) (Int32.toNatClampNeg (3 : Int32)) (some (u9 0))))))))] ++ ([(h0, .inr (4, [.ref q1, .int 0, .int 0]))] ++ R))))))) H := hP
  have hD : va_D A (wQ G u11 qI ++ (wQ G u9 qI ++ (wQ G u7 qI ++ (wQ G u5 qI ++ (wQ G u3 qI ++ ([(q1, .inl (G.2.1 3, 7, .inr (.inr (.inr (.inr (va_up (va_up (va_up (va_up (fun _ => none) (Int32.toNatClampNeg (0 : Int32)) (some (u3 0))) (Int32.toNatClampNeg (1 : Int32)) (some (u5 0))) (Int32.toNatClampNeg (2 : Int32)) (some (u7 0))) (Int32.toNatClampNeg (3 : Int32)) (some (u9 0))))))))] ++ ([(h0, .inr (4, [.ref q1, .int 0, .int 0]))] ++ R))))))) := hD
  refine W.widen (k := 91) (n := 1187) (Nat.le_of_ble_eq_true rfl) (Nat.le_of_ble_eq_true rfl) ?_
  refine va_astq hx hb hKn.k hP hD hS 90 3 0 6 rfl rfl rfl rfl (by unfold vp_in; decide) dX4_init_33 (fun H locs hP hD hS => ?_)
  have hP : va_P G.1 vwCl (wQ G u11 qI ++ (wQ G u9 qI ++ (wQ G u7 qI ++ (wQ G u5 qI ++ (wQ G u3 qI ++ ([(q1, .inl (G.2.1 3, 7, .inr (.inr (.inr (.inr (va_up (va_up (va_up (va_up (va_up (fun _ => none) (Int32.toNatClampNeg (0 : Int32)) (some (u3 0))) (Int32.toNatClampNeg (1 : Int32)) (some (u5 0))) (Int32.toNatClampNeg (2 : Int32)) (some (u7 0))) (Int32.toNatClampNeg (3 : Int32)) (some (u9 0))) (Int32.toNatClampNeg (4 : Int32)) (some (u11 0))))))))] ++ ([(h0, .inr (4, [.ref q1, .int 0, .int 0]))] ++ R))))))) H := hP
  have hD : va_D A (wQ G u11 qI ++ (wQ G u9 qI ++ (wQ G u7 qI ++ (wQ G u5 qI ++ (wQ G u3 qI ++ ([(q1, .inl (G.2.1 3, 7, .inr (.inr (.inr (.inr (va_up (va_up (va_up (va_up (va_up (fun _ => none) (Int32.toNatClampNeg (0 : Int32)) (some (u3 0))) (Int32.toNatClampNeg (1 : Int32)) (some (u5 0))) (Int32.toNatClampNeg (2 : Int32)) (some (u7 0))) (Int32.toNatClampNeg (3 : Int32)) (some (u9 0))) (Int32.toNatClampNeg (4 : Int32)) (some (u11 0))))))))] ++ ([(h0, .inr (4, [.ref q1, .int 0, .int 0]))] ++ R))))))) := hD
  refine lv_iinc (v := (5 : Int32)) (lv' := [(1, .int (5 : Int32)), (0, .ref h0)]) hx hb dX4_init_34 hl (k := 0) rfl (by decide) (by decide) rfl (fun ls hl => ?_)
  refine lv_goto (tgt := 15) hx hb dX4_init_37 (by decide) ?_
  refine lv_iload_n hx hb dX4_init_15 rfl (lv_at hl 0 rfl) ?_
  refine lv_bipush (v := (7 : Int32)) hx hb dX4_init_16 (by decide) ?_
  refine lv_icmp_ge (tgt := 40) hx hb dX4_init_18 (by decide) (fun c1 => absurd c1 (by decide)) (fun c1 => ?_)
  refine lv_aload_n hx hb dX4_init_21 rfl (lv_at hl 1 rfl) ?_
  refine va_get (D := G.1) (ci := 4) (v := .ref q1) (C := RX4) (T := TX4) (N := 3) hx hb hts iX4_init_X4 hown hKn.k hP 91 rfl rfl 0 (by decide) (hts _ lX4_init_f13) (fun _ h9 => h9) rfl dX4_init_22 ?_
  refine lv_iload_n hx hb dX4_init_25 rfl (lv_at hl 0 rfl) ?_
  refine q_new (ci := 6) (fs := [.null, .null, .null, .null, .null, .null, .int 0, .int 0, .int 0, .int 0]) (C := RX6) (T := TX6) (N := 10) hx hb hts iX4_init_X6 tyX6 tyX6_ok hown (hts _ lX4_init_c11) (hts _ lX4_init_iX6) (hts _ lX4_init_nX6) hP hD hS hA hKn rfl (by intro j hj; rcases (show j = 0 ∨ j = 1 ∨ j = 2 ∨ j = 3 ∨ j = 4 ∨ j = 5 ∨ j = 6 ∨ j = 7 ∨ j = 8 ∨ j = 9 by omega) with rfl | rfl | rfl | rfl | rfl | rfl | rfl | rfl | rfl | rfl <;> rfl) (Nat.le_of_ble_eq_true rfl) (Nat.le_of_ble_eq_true rfl) dX4_init_26 (fun q12 H hP hD hS => ?_)
  have hP : va_P G.1 vwCl ([(q12, .inr (6, [.null, .null, .null, .null, .null, .null, .int 0, .int 0, .int 0, .int 0]))] ++ (wQ G u11 qI ++ (wQ G u9 qI ++ (wQ G u7 qI ++ (wQ G u5 qI ++ (wQ G u3 qI ++ ([(q1, .inl (G.2.1 3, 7, .inr (.inr (.inr (.inr (va_up (va_up (va_up (va_up (va_up (fun _ => none) (Int32.toNatClampNeg (0 : Int32)) (some (u3 0))) (Int32.toNatClampNeg (1 : Int32)) (some (u5 0))) (Int32.toNatClampNeg (2 : Int32)) (some (u7 0))) (Int32.toNatClampNeg (3 : Int32)) (some (u9 0))) (Int32.toNatClampNeg (4 : Int32)) (some (u11 0))))))))] ++ ([(h0, .inr (4, [.ref q1, .int 0, .int 0]))] ++ R)))))))) H := hP
  have hD : va_D A ([(q12, .inr (6, [.null, .null, .null, .null, .null, .null, .int 0, .int 0, .int 0, .int 0]))] ++ (wQ G u11 qI ++ (wQ G u9 qI ++ (wQ G u7 qI ++ (wQ G u5 qI ++ (wQ G u3 qI ++ ([(q1, .inl (G.2.1 3, 7, .inr (.inr (.inr (.inr (va_up (va_up (va_up (va_up (va_up (fun _ => none) (Int32.toNatClampNeg (0 : Int32)) (some (u3 0))) (Int32.toNatClampNeg (1 : Int32)) (some (u5 0))) (Int32.toNatClampNeg (2 : Int32)) (some (u7 0))) (Int32.toNatClampNeg (3 : Int32)) (some (u9 0))) (Int32.toNatClampNeg (4 : Int32)) (some (u11 0))))))))] ++ ([(h0, .inr (4, [.ref q1, .int 0, .int 0]))] ++ R)))))))) := hD
  refine W.widen (k := 92) (n := 1197) (Nat.le_of_ble_eq_true rfl) (Nat.le_of_ble_eq_true rfl) ?_
  refine lv_dup hx hb dX4_init_29 rfl ?_
  refine qc_IN (As := []) (rest := [.ref q12, .int (5 : Int32), .ref q1]) ⟨hx, hb, hml, hown, hts⟩ (mX6_init l G q12 (wQ G u11 qI ++ (wQ G u9 qI ++ (wQ G u7 qI ++ (wQ G u5 qI ++ (wQ G u3 qI ++ ([(q1, .inl (G.2.1 3, 7, .inr (.inr (.inr (.inr (va_up (va_up (va_up (va_up (va_up (fun _ => none) (Int32.toNatClampNeg (0 : Int32)) (some (u3 0))) (Int32.toNatClampNeg (1 : Int32)) (some (u5 0))) (Int32.toNatClampNeg (2 : Int32)) (some (u7 0))) (Int32.toNatClampNeg (3 : Int32)) (some (u9 0))) (Int32.toNatClampNeg (4 : Int32)) (some (u11 0))))))))] ++ ([(h0, .inr (4, [.ref q1, .int 0, .int 0]))] ++ R))))))) _) ⟨va_cnB 0 hts gX4_init_X6_init_n17 rfl rfl rfl (hKn.2.1 _ (List.mem_of_getElem? (i := 5) rfl)) (hts _ lX4_init_nX6) (by decide +kernel) ⟨Nat.le_of_ble_eq_true rfl, Nat.le_of_ble_eq_true rfl⟩, rfl, (hts _ lX4_init_yX6_init)⟩ hP hD hS hA hKn hEx rfl hl.1 rfl (Nat.le_of_ble_eq_true rfl) dX4_init_30 ⟨Nat.le_of_ble_eq_true rfl, Nat.le_of_ble_eq_true rfl⟩ (fun u13 H locs hu hP hD hS => ?_)
  have hu : u13 0 = q12 := hu
  rw [← hu]
  have hP : va_P G.1 vwCl (wQ G u13 qI ++ (wQ G u11 qI ++ (wQ G u9 qI ++ (wQ G u7 qI ++ (wQ G u5 qI ++ (wQ G u3 qI ++ ([(q1, .inl (G.2.1 3, 7, .inr (.inr (.inr (.inr (va_up (va_up (va_up (va_up (va_up (fun _ => none) (Int32.toNatClampNeg (0 : Int32)) (some (u3 0))) (Int32.toNatClampNeg (1 : Int32)) (some (u5 0))) (Int32.toNatClampNeg (2 : Int32)) (some (u7 0))) (Int32.toNatClampNeg (3 : Int32)) (some (u9 0))) (Int32.toNatClampNeg (4 : Int32)) (some (u11 0))))))))] ++ ([(h0, .inr (4, [.ref q1, .int 0, .int 0]))] ++ R)))))))) H := hP
  have hD : va_D A (wQ G u13 qI ++ (wQ G u11 qI ++ (wQ G u9 qI ++ (wQ G u7 qI ++ (wQ G u5 qI ++ (wQ G u3 qI ++ ([(q1, .inl (G.2.1 3, 7, .inr (.inr (.inr (.inr (va_up (va_up (va_up (va_up (va_up (fun _ => none) (Int32.toNatClampNeg (0 : Int32)) (some (u3 0))) (Int32.toNatClampNeg (1 : Int32)) (some (u5 0))) (Int32.toNatClampNeg (2 : Int32)) (some (u7 0))) (Int32.toNatClampNeg (3 : Int32)) (some (u9 0))) (Int32.toNatClampNeg (4 : Int32)) (some (u11 0))))))))] ++ ([(h0, .inr (4, [.ref q1, .int 0, .int 0]))] ++ R)))))))) := hD
  refine W.widen (k := 109) (n := 1423) (Nat.le_of_ble_eq_true rfl) (Nat.le_of_ble_eq_true rfl) ?_
  refine va_astq hx hb hKn.k hP hD hS 108 3 0 6 rfl rfl rfl rfl (by unfold vp_in; decide) dX4_init_33 (fun H locs hP hD hS => ?_)
  have hP : va_P G.1 vwCl (wQ G u13 qI ++ (wQ G u11 qI ++ (wQ G u9 qI ++ (wQ G u7 qI ++ (wQ G u5 qI ++ (wQ G u3 qI ++ ([(q1, .inl (G.2.1 3, 7, .inr (.inr (.inr (.inr (va_up (va_up (va_up (va_up (va_up (va_up (fun _ => none) (Int32.toNatClampNeg (0 : Int32)) (some (u3 0))) (Int32.toNatClampNeg (1 : Int32)) (some (u5 0))) (Int32.toNatClampNeg (2 : Int32)) (some (u7 0))) (Int32.toNatClampNeg (3 : Int32)) (some (u9 0))) (Int32.toNatClampNeg (4 : Int32)) (some (u11 0))) (Int32.toNatClampNeg (5 : Int32)) (some (u13 0))))))))] ++ ([(h0, .inr (4, [.ref q1, .int 0, .int 0]))] ++ R)))))))) H := hP
  have hD : va_D A (wQ G u13 qI ++ (wQ G u11 qI ++ (wQ G u9 qI ++ (wQ G u7 qI ++ (wQ G u5 qI ++ (wQ G u3 qI ++ ([(q1, .inl (G.2.1 3, 7, .inr (.inr (.inr (.inr (va_up (va_up (va_up (va_up (va_up (va_up (fun _ => none) (Int32.toNatClampNeg (0 : Int32)) (some (u3 0))) (Int32.toNatClampNeg (1 : Int32)) (some (u5 0))) (Int32.toNatClampNeg (2 : Int32)) (some (u7 0))) (Int32.toNatClampNeg (3 : Int32)) (some (u9 0))) (Int32.toNatClampNeg (4 : Int32)) (some (u11 0))) (Int32.toNatClampNeg (5 : Int32)) (some (u13 0))))))))] ++ ([(h0, .inr (4, [.ref q1, .int 0, .int 0]))] ++ R)))))))) := hD
  refine lv_iinc (v := (6 : Int32)) (lv' := [(1, .int (6 : Int32)), (0, .ref h0)]) hx hb dX4_init_34 hl (k := 0) rfl (by decide) (by decide) rfl (fun ls hl => ?_)
  refine lv_goto (tgt := 15) hx hb dX4_init_37 (by decide) ?_
  refine lv_iload_n hx hb dX4_init_15 rfl (lv_at hl 0 rfl) ?_
  refine lv_bipush (v := (7 : Int32)) hx hb dX4_init_16 (by decide) ?_
  refine lv_icmp_ge (tgt := 40) hx hb dX4_init_18 (by decide) (fun c1 => absurd c1 (by decide)) (fun c1 => ?_)
  refine lv_aload_n hx hb dX4_init_21 rfl (lv_at hl 1 rfl) ?_
  refine va_get (D := G.1) (ci := 4) (v := .ref q1) (C := RX4) (T := TX4) (N := 3) hx hb hts iX4_init_X4 hown hKn.k hP 109 rfl rfl 0 (by decide) (hts _ lX4_init_f13) (fun _ h9 => h9) rfl dX4_init_22 ?_
  refine lv_iload_n hx hb dX4_init_25 rfl (lv_at hl 0 rfl) ?_
  refine q_new (ci := 6) (fs := [.null, .null, .null, .null, .null, .null, .int 0, .int 0, .int 0, .int 0]) (C := RX6) (T := TX6) (N := 10) hx hb hts iX4_init_X6 tyX6 tyX6_ok hown (hts _ lX4_init_c11) (hts _ lX4_init_iX6) (hts _ lX4_init_nX6) hP hD hS hA hKn rfl (by intro j hj; rcases (show j = 0 ∨ j = 1 ∨ j = 2 ∨ j = 3 ∨ j = 4 ∨ j = 5 ∨ j = 6 ∨ j = 7 ∨ j = 8 ∨ j = 9 by omega) with rfl | rfl | rfl | rfl | rfl | rfl | rfl | rfl | rfl | rfl <;> rfl) (Nat.le_of_ble_eq_true rfl) (Nat.le_of_ble_eq_true rfl) dX4_init_26 (fun q14 H hP hD hS => ?_)
  have hP : va_P G.1 vwCl ([(q14, .inr (6, [.null, .null, .null, .null, .null, .null, .int 0, .int 0, .int 0, .int 0]))] ++ (wQ G u13 qI ++ (wQ G u11 qI ++ (wQ G u9 qI ++ (wQ G u7 qI ++ (wQ G u5 qI ++ (wQ G u3 qI ++ ([(q1, .inl (G.2.1 3, 7, .inr (.inr (.inr (.inr (va_up (va_up (va_up (va_up (va_up (va_up (fun _ => none) (Int32.toNatClampNeg (0 : Int32)) (some (u3 0))) (Int32.toNatClampNeg (1 : Int32)) (some (u5 0))) (Int32.toNatClampNeg (2 : Int32)) (some (u7 0))) (Int32.toNatClampNeg (3 : Int32)) (some (u9 0))) (Int32.toNatClampNeg (4 : Int32)) (some (u11 0))) (Int32.toNatClampNeg (5 : Int32)) (some (u13 0))))))))] ++ ([(h0, .inr (4, [.ref q1, .int 0, .int 0]))] ++ R))))))))) H := hP
  have hD : va_D A ([(q14, .inr (6, [.null, .null, .null, .null, .null, .null, .int 0, .int 0, .int 0, .int 0]))] ++ (wQ G u13 qI ++ (wQ G u11 qI ++ (wQ G u9 qI ++ (wQ G u7 qI ++ (wQ G u5 qI ++ (wQ G u3 qI ++ ([(q1, .inl (G.2.1 3, 7, .inr (.inr (.inr (.inr (va_up (va_up (va_up (va_up (va_up (va_up (fun _ => none) (Int32.toNatClampNeg (0 : Int32)) (some (u3 0))) (Int32.toNatClampNeg (1 : Int32)) (some (u5 0))) (Int32.toNatClampNeg (2 : Int32)) (some (u7 0))) (Int32.toNatClampNeg (3 : Int32)) (some (u9 0))) (Int32.toNatClampNeg (4 : Int32)) (some (u11 0))) (Int32.toNatClampNeg (5 : Int32)) (some (u13 0))))))))] ++ ([(h0, .inr (4, [.ref q1, .int 0, .int 0]))] ++ R))))))))) := hD
  refine W.widen (k := 110) (n := 1433) (Nat.le_of_ble_eq_true rfl) (Nat.le_of_ble_eq_true rfl) ?_
  refine lv_dup hx hb dX4_init_29 rfl ?_
  refine qc_IN (As := []) (rest := [.ref q14, .int (6 : Int32), .ref q1]) ⟨hx, hb, hml, hown, hts⟩ (mX6_init l G q14 (wQ G u13 qI ++ (wQ G u11 qI ++ (wQ G u9 qI ++ (wQ G u7 qI ++ (wQ G u5 qI ++ (wQ G u3 qI ++ ([(q1, .inl (G.2.1 3, 7, .inr (.inr (.inr (.inr (va_up (va_up (va_up (va_up (va_up (va_up (fun _ => none) (Int32.toNatClampNeg (0 : Int32)) (some (u3 0))) (Int32.toNatClampNeg (1 : Int32)) (some (u5 0))) (Int32.toNatClampNeg (2 : Int32)) (some (u7 0))) (Int32.toNatClampNeg (3 : Int32)) (some (u9 0))) (Int32.toNatClampNeg (4 : Int32)) (some (u11 0))) (Int32.toNatClampNeg (5 : Int32)) (some (u13 0))))))))] ++ ([(h0, .inr (4, [.ref q1, .int 0, .int 0]))] ++ R)))))))) _) ⟨va_cnB 0 hts gX4_init_X6_init_n17 rfl rfl rfl (hKn.2.1 _ (List.mem_of_getElem? (i := 5) rfl)) (hts _ lX4_init_nX6) (by decide +kernel) ⟨Nat.le_of_ble_eq_true rfl, Nat.le_of_ble_eq_true rfl⟩, rfl, (hts _ lX4_init_yX6_init)⟩ hP hD hS hA hKn hEx rfl hl.1 rfl (Nat.le_of_ble_eq_true rfl) dX4_init_30 ⟨Nat.le_of_ble_eq_true rfl, Nat.le_of_ble_eq_true rfl⟩ (fun u15 H locs hu hP hD hS => ?_)
  have hu : u15 0 = q14 := hu
  rw [← hu]
  have hP : va_P G.1 vwCl (wQ G u15 qI ++ (wQ G u13 qI ++ (wQ G u11 qI ++ (wQ G u9 qI ++ (wQ G u7 qI ++ (wQ G u5 qI ++ (wQ G u3 qI ++ ([(q1, .inl (G.2.1 3, 7, .inr (.inr (.inr (.inr (va_up (va_up (va_up (va_up (va_up (va_up (fun _ => none) (Int32.toNatClampNeg (0 : Int32)) (some (u3 0))) (Int32.toNatClampNeg (1 : Int32)) (some (u5 0))) (Int32.toNatClampNeg (2 : Int32)) (some (u7 0))) (Int32.toNatClampNeg (3 : Int32)) (some (u9 0))) (Int32.toNatClampNeg (4 : Int32)) (some (u11 0))) (Int32.toNatClampNeg (5 : Int32)) (some (u13 0))))))))] ++ ([(h0, .inr (4, [.ref q1, .int 0, .int 0]))] ++ R))))))))) H := hP
  have hD : va_D A (wQ G u15 qI ++ (wQ G u13 qI ++ (wQ G u11 qI ++ (wQ G u9 qI ++ (wQ G u7 qI ++ (wQ G u5 qI ++ (wQ G u3 qI ++ ([(q1, .inl (G.2.1 3, 7, .inr (.inr (.inr (.inr (va_up (va_up (va_up (va_up (va_up (va_up (fun _ => none) (Int32.toNatClampNeg (0 : Int32)) (some (u3 0))) (Int32.toNatClampNeg (1 : Int32)) (some (u5 0))) (Int32.toNatClampNeg (2 : Int32)) (some (u7 0))) (Int32.toNatClampNeg (3 : Int32)) (some (u9 0))) (Int32.toNatClampNeg (4 : Int32)) (some (u11 0))) (Int32.toNatClampNeg (5 : Int32)) (some (u13 0))))))))] ++ ([(h0, .inr (4, [.ref q1, .int 0, .int 0]))] ++ R))))))))) := hD
  refine W.widen (k := 127) (n := 1659) (Nat.le_of_ble_eq_true rfl) (Nat.le_of_ble_eq_true rfl) ?_
  refine va_astq hx hb hKn.k hP hD hS 126 3 0 6 rfl rfl rfl rfl (by unfold vp_in; decide) dX4_init_33 (fun H locs hP hD hS => ?_)
  have hP : va_P G.1 vwCl (wQ G u15 qI ++ (wQ G u13 qI ++ (wQ G u11 qI ++ (wQ G u9 qI ++ (wQ G u7 qI ++ (wQ G u5 qI ++ (wQ G u3 qI ++ ([(q1, .inl (G.2.1 3, 7, .inr (.inr (.inr (.inr (va_up (va_up (va_up (va_up (va_up (va_up (va_up (fun _ => none) (Int32.toNatClampNeg (0 : Int32)) (some (u3 0))) (Int32.toNatClampNeg (1 : Int32)) (some (u5 0))) (Int32.toNatClampNeg (2 : Int32)) (some (u7 0))) (Int32.toNatClampNeg (3 : Int32)) (some (u9 0))) (Int32.toNatClampNeg (4 : Int32)) (some (u11 0))) (Int32.toNatClampNeg (5 : Int32)) (some (u13 0))) (Int32.toNatClampNeg (6 : Int32)) (some (u15 0))))))))] ++ ([(h0, .inr (4, [.ref q1, .int 0, .int 0]))] ++ R))))))))) H := hP
  have hD : va_D A (wQ G u15 qI ++ (wQ G u13 qI ++ (wQ G u11 qI ++ (wQ G u9 qI ++ (wQ G u7 qI ++ (wQ G u5 qI ++ (wQ G u3 qI ++ ([(q1, .inl (G.2.1 3, 7, .inr (.inr (.inr (.inr (va_up (va_up (va_up (va_up (va_up (va_up (va_up (fun _ => none) (Int32.toNatClampNeg (0 : Int32)) (some (u3 0))) (Int32.toNatClampNeg (1 : Int32)) (some (u5 0))) (Int32.toNatClampNeg (2 : Int32)) (some (u7 0))) (Int32.toNatClampNeg (3 : Int32)) (some (u9 0))) (Int32.toNatClampNeg (4 : Int32)) (some (u11 0))) (Int32.toNatClampNeg (5 : Int32)) (some (u13 0))) (Int32.toNatClampNeg (6 : Int32)) (some (u15 0))))))))] ++ ([(h0, .inr (4, [.ref q1, .int 0, .int 0]))] ++ R))))))))) := hD
  refine lv_iinc (v := (7 : Int32)) (lv' := [(1, .int (7 : Int32)), (0, .ref h0)]) hx hb dX4_init_34 hl (k := 0) rfl (by decide) (by decide) rfl (fun ls hl => ?_)
  refine lv_goto (tgt := 15) hx hb dX4_init_37 (by decide) ?_
  refine lv_iload_n hx hb dX4_init_15 rfl (lv_at hl 0 rfl) ?_
  refine lv_bipush (v := (7 : Int32)) hx hb dX4_init_16 (by decide) ?_
  refine lv_icmp_ge (tgt := 40) hx hb dX4_init_18 (by decide) (fun c1 => ?_) (fun c1 => absurd (by decide) c1)
  obtain ⟨hP, hD⟩ := q_perm ((((((((List.perm_append_comm_assoc _ _ _).trans (((List.perm_append_comm_assoc _ _ _).append_left _).trans (List.perm_append_comm_assoc _ _ _))).trans (((((List.perm_append_comm_assoc _ _ _).append_left _).trans (List.perm_append_comm_assoc _ _ _)).append_left _).trans (List.perm_append_comm_assoc _ _ _))).trans (((((((List.perm_append_comm_assoc _ _ _).append_left _).trans (List.perm_append_comm_assoc _ _ _)).append_left _).trans (List.perm_append_comm_assoc _ _ _)).append_left _).trans (List.perm_append_comm_assoc _ _ _))).trans (((((((((List.perm_append_comm_assoc _ _ _).append_left _).trans (List.perm_append_comm_assoc _ _ _)).append_left _).trans (List.perm_append_comm_assoc _ _ _)).append_left _).trans (List.perm_append_comm_assoc _ _ _)).append_left _).trans (List.perm_append_comm_assoc _ _ _))).trans (((((((((((List.perm_append_comm_assoc _ _ _).append_left _).trans (List.perm_append_comm_assoc _ _ _)).append_left _).trans (List.perm_append_comm_assoc _ _ _)).append_left _).trans (List.perm_append_comm_assoc _ _ _)).append_left _).trans (List.perm_append_comm_assoc _ _ _)).append_left _).trans (List.perm_append_comm_assoc _ _ _))).trans (((((((((((((List.perm_append_comm_assoc _ _ _).append_left _).trans (List.perm_append_comm_assoc _ _ _)).append_left _).trans (List.perm_append_comm_assoc _ _ _)).append_left _).trans (List.perm_append_comm_assoc _ _ _)).append_left _).trans (List.perm_append_comm_assoc _ _ _)).append_left _).trans (List.perm_append_comm_assoc _ _ _)).append_left _).trans (List.perm_append_comm_assoc _ _ _))).trans (((((((((((((((List.perm_append_comm_assoc _ _ _).append_left _).trans (List.perm_append_comm_assoc _ _ _)).append_left _).trans (List.perm_append_comm_assoc _ _ _)).append_left _).trans (List.perm_append_comm_assoc _ _ _)).append_left _).trans (List.perm_append_comm_assoc _ _ _)).append_left _).trans (List.perm_append_comm_assoc _ _ _)).append_left _).trans (List.perm_append_comm_assoc _ _ _)).append_left _).trans (List.perm_append_comm_assoc _ _ _))) hP hD
  have hP : va_P G.1 vwCl ([(h0, .inr (4, [.ref q1, .int 0, .int 0]))] ++ ([(q1, .inl (G.2.1 3, 7, .inr (.inr (.inr (.inr (va_up (va_up (va_up (va_up (va_up (va_up (va_up (fun _ => none) (Int32.toNatClampNeg (0 : Int32)) (some (u3 0))) (Int32.toNatClampNeg (1 : Int32)) (some (u5 0))) (Int32.toNatClampNeg (2 : Int32)) (some (u7 0))) (Int32.toNatClampNeg (3 : Int32)) (some (u9 0))) (Int32.toNatClampNeg (4 : Int32)) (some (u11 0))) (Int32.toNatClampNeg (5 : Int32)) (some (u13 0))) (Int32.toNatClampNeg (6 : Int32)) (some (u15 0))))))))] ++ (wQ G u3 qI ++ (wQ G u5 qI ++ (wQ G u7 qI ++ (wQ G u9 qI ++ (wQ G u11 qI ++ (wQ G u13 qI ++ (wQ G u15 qI ++ R))))))))) _ := hP
  have hD : va_D A ([(h0, .inr (4, [.ref q1, .int 0, .int 0]))] ++ ([(q1, .inl (G.2.1 3, 7, .inr (.inr (.inr (.inr (va_up (va_up (va_up (va_up (va_up (va_up (va_up (fun _ => none) (Int32.toNatClampNeg (0 : Int32)) (some (u3 0))) (Int32.toNatClampNeg (1 : Int32)) (some (u5 0))) (Int32.toNatClampNeg (2 : Int32)) (some (u7 0))) (Int32.toNatClampNeg (3 : Int32)) (some (u9 0))) (Int32.toNatClampNeg (4 : Int32)) (some (u11 0))) (Int32.toNatClampNeg (5 : Int32)) (some (u13 0))) (Int32.toNatClampNeg (6 : Int32)) (some (u15 0))))))))] ++ (wQ G u3 qI ++ (wQ G u5 qI ++ (wQ G u7 qI ++ (wQ G u9 qI ++ (wQ G u11 qI ++ (wQ G u13 qI ++ (wQ G u15 qI ++ R))))))))) := hD
  obtain ⟨hP, hD⟩ := q_row (G := G) (k := 1) (q := q1) (n := 7) (f := va_up (va_up (va_up (va_up (va_up (va_up (va_up (fun _ => none) (Int32.toNatClampNeg (0 : Int32)) (some (u3 0))) (Int32.toNatClampNeg (1 : Int32)) (some (u5 0))) (Int32.toNatClampNeg (2 : Int32)) (some (u7 0))) (Int32.toNatClampNeg (3 : Int32)) (some (u9 0))) (Int32.toNatClampNeg (4 : Int32)) (some (u11 0))) (Int32.toNatClampNeg (5 : Int32)) (some (u13 0))) (Int32.toNatClampNeg (6 : Int32)) (some (u15 0))) (g := fun j => some ((fun j => (if j = 0 then u3 else (if j = 1 then u5 else (if j = 2 then u7 else (if j = 3 then u9 else (if j = 4 then u11 else (if j = 5 then u13 else (if j = 6 then u15 else (fun _ => 0))))))))) j 0)) rfl (fun j hj => by rcases (show j = 0 ∨ j = 1 ∨ j = 2 ∨ j = 3 ∨ j = 4 ∨ j = 5 ∨ j = 6 by omega) with rfl | rfl | rfl | rfl | rfl | rfl | rfl <;> rfl) hP hD
  have hP : va_P G.1 vwCl ([(h0, .inr (4, [.ref q1, .int 0, .int 0]))] ++ ([(q1, .inl (G.2.1 3, 7, .inr (.inr (.inr (.inr (fun j => some ((fun j => (if j = 0 then u3 else (if j = 1 then u5 else (if j = 2 then u7 else (if j = 3 then u9 else (if j = 4 then u11 else (if j = 5 then u13 else (if j = 6 then u15 else (fun _ => 0))))))))) j 0)))))))] ++ (wQ G u3 qI ++ (wQ G u5 qI ++ (wQ G u7 qI ++ (wQ G u9 qI ++ (wQ G u11 qI ++ (wQ G u13 qI ++ (wQ G u15 qI ++ R))))))))) H := hP
  have hD : va_D A ([(h0, .inr (4, [.ref q1, .int 0, .int 0]))] ++ ([(q1, .inl (G.2.1 3, 7, .inr (.inr (.inr (.inr (fun j => some ((fun j => (if j = 0 then u3 else (if j = 1 then u5 else (if j = 2 then u7 else (if j = 3 then u9 else (if j = 4 then u11 else (if j = 5 then u13 else (if j = 6 then u15 else (fun _ => 0))))))))) j 0)))))))] ++ (wQ G u3 qI ++ (wQ G u5 qI ++ (wQ G u7 qI ++ (wQ G u9 qI ++ (wQ G u11 qI ++ (wQ G u13 qI ++ (wQ G u15 qI ++ R))))))))) := hD
  exact W.vret hx hb hr (fun t ht hW => q_rv (post := fun (u : (Nat → Nat) × (Nat → Nat → Nat)) => u.1 1 = h0) (W' := fun (u : (Nat → Nat) × (Nat → Nat → Nat)) => [(u.1 1, .inr (4, [.ref (u.1 2), .int 0, .int 0])), (u.1 2, .inl (G.2.1 3, 7, .inr (.inr (.inr (.inr (fun j => some (u.2 j 0)))))))] ++ (wQ G (u.2 0) qI ++ (wQ G (u.2 1) qI ++ (wQ G (u.2 2) qI ++ (wQ G (u.2 3) qI ++ (wQ G (u.2 4) qI ++ (wQ G (u.2 5) qI ++ (wQ G (u.2 6) qI ++ R)))))))) (u := (((fun n => (if n = 1 then h0 else (if n = 2 then q1 else 0))), (fun j => (if j = 0 then u3 else (if j = 1 then u5 else (if j = 2 then u7 else (if j = 3 then u9 else (if j = 4 then u11 else (if j = 5 then u13 else (if j = 6 then u15 else (fun _ => 0)))))))))) : (Nat → Nat) × (Nat → Nat → Nat))) hAe rfl hP hD hS ht) hS.2.2 dX4_init_40
abbrev rmX7_init : Room := { frames := 3, cells := 38, slots := 476, locals := 63 }
theorem lX7_init_aboolean : Cond.arrayClass .boolean ∈ wsX7_init := by decide +kernel
theorem lX7_init_c9 : Cond.classLink RX7 9 RX6 ∈ wsX7_init := by decide +kernel
theorem lX7_init_co : Cond.code objectInit ⟨#[0xb1]⟩ 1 none ∈ wsX7_init := by decide +kernel
theorem lX7_init_f11 : Cond.fieldLink RX7 11 "QuarryBlends$Slots" "states" "[LQuarryBlends$Quarry;" ∈ wsX7_init := by decide +kernel
theorem lX7_init_f17 : Cond.fieldLink RX7 17 "QuarryBlends$Slots" "filled" "[Z" ∈ wsX7_init := by decide +kernel
theorem lX7_init_iX6 : Cond.instantiable RX6 10 ∈ wsX7_init := by decide +kernel
theorem lX7_init_io : Cond.instanceMethod objectInit ∈ wsX7_init := by decide +kernel
theorem lX7_init_m3 : Cond.methodLink RX7 3 objectInit ∈ wsX7_init := by decide +kernel
theorem lX7_init_nX6 : Cond.initialized RX6 ∈ wsX7_init := by decide +kernel
theorem lX7_init_yX6_init : Cond.instanceMethod yX6_init ∈ wsX7_init := by decide +kernel
theorem iX7_init_X6 : ∀ w ∈ wsX60, w ∈ wsX7_init := by decide +kernel
theorem iX7_init_X7 : ∀ w ∈ wsX70, w ∈ wsX7_init := by decide +kernel
set_option maxHeartbeats 4000000 in
set_option maxRecDepth 100000 in
theorem mX7_init (l : Launch) (G : qG) (h0 : Nat) (R : va_W) (sz : Nat) : Met l yX7_init wsX7_init rmX7_init (qPn G [.ref h0] ([(h0, .inr (7, [.null, .null]))] ++ R) sz) (qQv G ([(h0, .inr (7, [.null, .null]))] ++ R) sz (fun (u : (Nat → Nat) × (Nat → Nat → Nat)) => u.1 3 = h0) (fun (u : (Nat → Nat) × (Nat → Nat → Nat)) => [(u.1 3, .inr (7, [.ref (u.1 5), .ref (u.1 4)])), (u.1 5, .inl (G.2.1 3, 2, .inr (.inr (.inr (.inr (fun j => some (u.2 j 0))))))), (u.1 4, .inl (G.2.1 1, 2, .inl (fun _ => 0)))] ++ (wQ G (u.2 0) qI ++ (wQ G (u.2 1) qI ++ R)))) 38 476 (va_A ([(h0, .inr (7, [.null, .null]))] ++ R) sz) := by
  refine Met.ofW (cc := cX7_init) (maxL := 2) (ret := none) (by decide) rfl ?_
  intro p e s m args below meth c s₁ B hml hv
  obtain ⟨rfl, hsz, hP, hD0, hKn0, hEx0⟩ := hv
  have hx := B.exec
  have hb := B.bytes
  have hr := B.returns
  have hts := atoms_spec (ws := wsX7_init) B.pre
  have hown : s.vm.findClass RX7 = some m.cls := findClass_of_methodNamed B.named
  have hlocks := B.notSynchronized
  have hin : meth.name = "<init>" := (name_of_methodNamed B.named B.method).1
  subst hsz
  have hD := hD0.self (sz := s.heap.size)
  generalize hAe : va_A ([(h0, .inr (7, [.null, .null]))] ++ R) s.heap.size = A at hD hKn0 hEx0 ⊢
  have hA : ∀ q : Nat, s.heap.size ≤ q → A q := fun q h => by rw [← hAe]; exact Or.inr h
  have hKn : qKn G A s s.heap := hKn0
  have hEx : qEx G A s s.heap := hEx0
  have hS : va_S A s.heap s.heap [] := va_S.rf
  have hl := lv_entry ([.ref h0]) (n := 2) (Nat.le_of_ble_eq_true rfl)
  rw [lg_entry_eq]
  generalize (lg_sl ([.ref h0]) ++ List.replicate (2 - (lg_sl ([.ref h0])).length) Slot.unset).toArray = ls at hl ⊢
  have hl : lv_has ls 2 [(0, .ref h0)] := hl
  show W p l e rmX7_init s m #[.ref h0] below meth c s.heap [] 0 0 _ _
  refine lv_aload_n hx hb dX7_init_0 rfl (lv_at hl 0 rfl) ?_
  refine W.objInit hx hb hown (hts _ lX7_init_m3) (hts _ lX7_init_io) (hts _ lX7_init_co) rfl (by rw [hml]; exact hl.1) rfl dX7_init_1 (Nat.le_of_ble_eq_true rfl) (Nat.le_of_ble_eq_true rfl) ?_
  refine W.eq (g2 := F0 m 4 ls []) rfl ?_
  refine lv_aload_n hx hb dX7_init_4 rfl (lv_at hl 0 rfl) ?_
  refine lv_iconst (v := (2 : Int32)) hx hb dX7_init_5 (by decide) ?_
  refine q_newq (N' := 2) hx hb hown (hts _ lX7_init_c9) hP hD hS hA hKn hEx (by decide) (by decide) (Nat.le_of_ble_eq_true rfl) (Nat.le_of_ble_eq_true rfl) (Nat.le_of_ble_eq_true rfl) dX7_init_6 (fun q1 H hP hD hS => ?_)
  have hP : va_P G.1 vwCl ([(q1, .inl (G.2.1 3, 2, .inr (.inr (.inr (.inr (fun _ => none))))))] ++ ([(h0, .inr (7, [.null, .null]))] ++ R)) H := hP
  have hD : va_D A ([(q1, .inl (G.2.1 3, 2, .inr (.inr (.inr (.inr (fun _ => none))))))] ++ ([(h0, .inr (7, [.null, .null]))] ++ R)) := hD
  refine W.widen (k := 1) (n := 2) (Nat.le_of_ble_eq_true rfl) (Nat.le_of_ble_eq_true rfl) ?_
  refine va_putF (D := G.1) (ci := 7) (v := .ref q1) (ty := .array (.object "QuarryBlends$Quarry")) (C := RX7) (T := TX7) (N := 2) hx hb hts iX7_init_X7 tyX7 tyX7_ok nmX7 hown hKn.k hP hD hS 1 rfl rfl 0 (by decide) (hts _ lX7_init_f11) (fun _ h9 => h9) rfl hin rfl (by decide +kernel) rfl rfl (Nat.le_of_ble_eq_true rfl) dX7_init_9 (fun H locs hP hD hS => ?_)
  have hP : va_P G.1 vwCl ([(q1, .inl (G.2.1 3, 2, .inr (.inr (.inr (.inr (fun _ => none))))))] ++ ([(h0, .inr (7, [.ref q1, .null]))] ++ R)) H := hP
  have hD : va_D A ([(q1, .inl (G.2.1 3, 2, .inr (.inr (.inr (.inr (fun _ => none))))))] ++ ([(h0, .inr (7, [.ref q1, .null]))] ++ R)) := hD
  refine lv_aload_n hx hb dX7_init_12 rfl (lv_at hl 0 rfl) ?_
  refine lv_iconst (v := (2 : Int32)) hx hb dX7_init_13 (by decide) ?_
  refine q_newa (atype := .boolean) (ty := .boolean) (N' := 2) (a0 := (2, .inl (fun _ => 0))) hx hb (hts _ lX7_init_aboolean) rfl hP hD hS hA hKn 1 rfl (fun _ h => h) (fun _ => rfl) (by decide) (by decide) (Nat.le_of_ble_eq_true rfl) (Nat.le_of_ble_eq_true rfl) (Nat.le_of_ble_eq_true rfl) dX7_init_14 (fun q2 H hP hD hS => ?_)
  have hP : va_P G.1 vwCl ([(q2, .inl (G.2.1 1, 2, .inl (fun _ => 0)))] ++ ([(q1, .inl (G.2.1 3, 2, .inr (.inr (.inr (.inr (fun _ => none))))))] ++ ([(h0, .inr (7, [.ref q1, .null]))] ++ R))) H := hP
  have hD : va_D A ([(q2, .inl (G.2.1 1, 2, .inl (fun _ => 0)))] ++ ([(q1, .inl (G.2.1 3, 2, .inr (.inr (.inr (.inr (fun _ => none))))))] ++ ([(h0, .inr (7, [.ref q1, .null]))] ++ R))) := hD
  refine W.widen (k := 2) (n := 4) (Nat.le_of_ble_eq_true rfl) (Nat.le_of_ble_eq_true rfl) ?_
  refine va_putF (D := G.1) (ci := 7) (v := .ref q2) (ty := .array .boolean) (C := RX7) (T := TX7) (N := 2) hx hb hts iX7_init_X7 tyX7 tyX7_ok nmX7 hown hKn.k hP hD hS 2 rfl rfl 1 (by decide) (hts _ lX7_init_f17) (fun _ h9 => h9) rfl hin rfl (by decide +kernel) rfl rfl (Nat.le_of_ble_eq_true rfl) dX7_init_16 (fun H locs hP hD hS => ?_)
  have hP : va_P G.1 vwCl ([(q2, .inl (G.2.1 1, 2, .inl (fun _ => 0)))] ++ ([(q1, .inl (G.2.1 3, 2, .inr (.inr (.inr (.inr (fun _ => none))))))] ++ ([(h0, .inr (7, [.ref q1, .ref q2]))] ++ R))) H := hP
  have hD : va_D A ([(q2, .inl (G.2.1 1, 2, .inl (fun _ => 0)))] ++ ([(q1, .inl (G.2.1 3, 2, .inr (.inr (.inr (.inr (fun _ => none))))))] ++ ([(h0, .inr (7, [.ref q1, .ref q2]))] ++ R))) := hD
  refine lv_iconst (v := (0 : Int32)) hx hb dX7_init_19 (by decide) ?_
  refine lv_istore_n (lv' := [(1, .int (0 : Int32)), (0, .ref h0)]) hx hb dX7_init_20 rfl hl (by decide) rfl (fun ls hl => ?_)
  refine lv_iload_n hx hb dX7_init_21 rfl (lv_at hl 0 rfl) ?_
  refine lv_iconst (v := (2 : Int32)) hx hb dX7_init_22 (by decide) ?_
  refine lv_icmp_ge (tgt := 45) hx hb dX7_init_23 (by decide) (fun c1 => absurd c1 (by decide)) (fun c1 => ?_)
  refine lv_aload_n hx hb dX7_init_26 rfl (lv_at hl 1 rfl) ?_
  refine va_get (D := G.1) (ci := 7) (v := .ref q1) (C := RX7) (T := TX7) (N := 2) hx hb hts iX7_init_X7 hown hKn.k hP 2 rfl rfl 0 (by decide) (hts _ lX7_init_f11) (fun _ h9 => h9) rfl dX7_init_27 ?_
  refine lv_iload_n hx hb dX7_init_30 rfl (lv_at hl 0 rfl) ?_
  refine q_new (ci := 6) (fs := [.null, .null, .null, .null, .null, .null, .int 0, .int 0, .int 0, .int 0]) (C := RX6) (T := TX6) (N := 10) hx hb hts iX7_init_X6 tyX6 tyX6_ok hown (hts _ lX7_init_c9) (hts _ lX7_init_iX6) (hts _ lX7_init_nX6) hP hD hS hA hKn rfl (by intro j hj; rcases (show j = 0 ∨ j = 1 ∨ j = 2 ∨ j = 3 ∨ j = 4 ∨ j = 5 ∨ j = 6 ∨ j = 7 ∨ j = 8 ∨ j = 9 by omega) with rfl | rfl | rfl | rfl | rfl | rfl | rfl | rfl | rfl | rfl <;> rfl) (Nat.le_of_ble_eq_true rfl) (Nat.le_of_ble_eq_true rfl) dX7_init_31 (fun q3 H hP hD hS => ?_)
  have hP : va_P G.1 vwCl ([(q3, .inr (6, [.null, .null, .null, .null, .null, .null, .int 0, .int 0, .int 0, .int 0]))] ++ ([(q2, .inl (G.2.1 1, 2, .inl (fun _ => 0)))] ++ ([(q1, .inl (G.2.1 3, 2, .inr (.inr (.inr (.inr (fun _ => none))))))] ++ ([(h0, .inr (7, [.ref q1, .ref q2]))] ++ R)))) H := hP
  have hD : va_D A ([(q3, .inr (6, [.null, .null, .null, .null, .null, .null, .int 0, .int 0, .int 0, .int 0]))] ++ ([(q2, .inl (G.2.1 1, 2, .inl (fun _ => 0)))] ++ ([(q1, .inl (G.2.1 3, 2, .inr (.inr (.inr (.inr (fun _ => none))))))] ++ ([(h0, .inr (7, [.ref q1, .ref q2]))] ++ R)))) := hD
  refine W.widen (k := 3) (n := 14) (Nat.le_of_ble_eq_true rfl) (Nat.le_of_ble_eq_true rfl) ?_
  refine lv_dup hx hb dX7_init_34 rfl ?_
  refine qc_IN (As := []) (rest := [.ref q3, .int (0 : Int32), .ref q1]) ⟨hx, hb, hml, hown, hts⟩ (mX6_init l G q3 ([(q2, .inl (G.2.1 1, 2, .inl (fun _ => 0)))] ++ ([(q1, .inl (G.2.1 3, 2, .inr (.inr (.inr (.inr (fun _ => none))))))] ++ ([(h0, .inr (7, [.ref q1, .ref q2]))] ++ R))) _) ⟨va_cnB 0 hts gX7_init_X6_init_n21 rfl rfl rfl (hKn.2.1 _ (List.mem_of_getElem? (i := 6) rfl)) (hts _ lX7_init_nX6) (by decide +kernel) ⟨Nat.le_of_ble_eq_true rfl, Nat.le_of_ble_eq_true rfl⟩, rfl, (hts _ lX7_init_yX6_init)⟩ hP hD hS hA hKn hEx rfl hl.1 rfl (Nat.le_of_ble_eq_true rfl) dX7_init_35 ⟨Nat.le_of_ble_eq_true rfl, Nat.le_of_ble_eq_true rfl⟩ (fun u4 H locs hu hP hD hS => ?_)
  have hu : u4 0 = q3 := hu
  rw [← hu]
  have hP : va_P G.1 vwCl (wQ G u4 qI ++ ([(q2, .inl (G.2.1 1, 2, .inl (fun _ => 0)))] ++ ([(q1, .inl (G.2.1 3, 2, .inr (.inr (.inr (.inr (fun _ => none))))))] ++ ([(h0, .inr (7, [.ref q1, .ref q2]))] ++ R)))) H := hP
  have hD : va_D A (wQ G u4 qI ++ ([(q2, .inl (G.2.1 1, 2, .inl (fun _ => 0)))] ++ ([(q1, .inl (G.2.1 3, 2, .inr (.inr (.inr (.inr (fun _ => none))))))] ++ ([(h0, .inr (7, [.ref q1, .ref q2]))] ++ R)))) := hD
  refine W.widen (k := 20) (n := 240) (Nat.le_of_ble_eq_true rfl) (Nat.le_of_ble_eq_true rfl) ?_
  refine va_astq hx hb hKn.k hP hD hS 19 3 0 6 rfl rfl rfl rfl (by unfold vp_in; decide) dX7_init_38 (fun H locs hP hD hS => ?_)
  have hP : va_P G.1 vwCl (wQ G u4 qI ++ ([(q2, .inl (G.2.1 1, 2, .inl (fun _ => 0)))] ++ ([(q1, .inl (G.2.1 3, 2, .inr (.inr (.inr (.inr (va_up (fun _ => none) (Int32.toNatClampNeg (0 : Int32)) (some (u4 0))))))))] ++ ([(h0, .inr (7, [.ref q1, .ref q2]))] ++ R)))) H := hP
  have hD : va_D A (wQ G u4 qI ++ ([(q2, .inl (G.2.1 1, 2, .inl (fun _ => 0)))] ++ ([(q1, .inl (G.2.1 3, 2, .inr (.inr (.inr (.inr (va_up (fun _ => none) (Int32.toNatClampNeg (0 : Int32)) (some (u4 0))))))))] ++ ([(h0, .inr (7, [.ref q1, .ref q2]))] ++ R)))) := hD
  refine lv_iinc (v := (1 : Int32)) (lv' := [(1, .int (1 : Int32)), (0, .ref h0)]) hx hb dX7_init_39 hl (k := 0) rfl (by decide) (by decide) rfl (fun ls hl => ?_)
  refine lv_goto (tgt := 21) hx hb dX7_init_42 (by decide) ?_
  refine lv_iload_n hx hb dX7_init_21 rfl (lv_at hl 0 rfl) ?_
  refine lv_iconst (v := (2 : Int32)) hx hb dX7_init_22 (by decide) ?_
  refine lv_icmp_ge (tgt := 45) hx hb dX7_init_23 (by decide) (fun c1 => absurd c1 (by decide)) (fun c1 => ?_)
  refine lv_aload_n hx hb dX7_init_26 rfl (lv_at hl 1 rfl) ?_
  refine va_get (D := G.1) (ci := 7) (v := .ref q1) (C := RX7) (T := TX7) (N := 2) hx hb hts iX7_init_X7 hown hKn.k hP 20 rfl rfl 0 (by decide) (hts _ lX7_init_f11) (fun _ h9 => h9) rfl dX7_init_27 ?_
  refine lv_iload_n hx hb dX7_init_30 rfl (lv_at hl 0 rfl) ?_
  refine q_new (ci := 6) (fs := [.null, .null, .null, .null, .null, .null, .int 0, .int 0, .int 0, .int 0]) (C := RX6) (T := TX6) (N := 10) hx hb hts iX7_init_X6 tyX6 tyX6_ok hown (hts _ lX7_init_c9) (hts _ lX7_init_iX6) (hts _ lX7_init_nX6) hP hD hS hA hKn rfl (by intro j hj; rcases (show j = 0 ∨ j = 1 ∨ j = 2 ∨ j = 3 ∨ j = 4 ∨ j = 5 ∨ j = 6 ∨ j = 7 ∨ j = 8 ∨ j = 9 by omega) with rfl | rfl | rfl | rfl | rfl | rfl | rfl | rfl | rfl | rfl <;> rfl) (Nat.le_of_ble_eq_true rfl) (Nat.le_of_ble_eq_true rfl) dX7_init_31 (fun q5 H hP hD hS => ?_)
  have hP : va_P G.1 vwCl ([(q5, .inr (6, [.null, .null, .null, .null, .null, .null, .int 0, .int 0, .int 0, .int 0]))] ++ (wQ G u4 qI ++ ([(q2, .inl (G.2.1 1, 2, .inl (fun _ => 0)))] ++ ([(q1, .inl (G.2.1 3, 2, .inr (.inr (.inr (.inr (va_up (fun _ => none) (Int32.toNatClampNeg (0 : Int32)) (some (u4 0))))))))] ++ ([(h0, .inr (7, [.ref q1, .ref q2]))] ++ R))))) H := hP
  have hD : va_D A ([(q5, .inr (6, [.null, .null, .null, .null, .null, .null, .int 0, .int 0, .int 0, .int 0]))] ++ (wQ G u4 qI ++ ([(q2, .inl (G.2.1 1, 2, .inl (fun _ => 0)))] ++ ([(q1, .inl (G.2.1 3, 2, .inr (.inr (.inr (.inr (va_up (fun _ => none) (Int32.toNatClampNeg (0 : Int32)) (some (u4 0))))))))] ++ ([(h0, .inr (7, [.ref q1, .ref q2]))] ++ R))))) := hD
  refine W.widen (k := 21) (n := 250) (Nat.le_of_ble_eq_true rfl) (Nat.le_of_ble_eq_true rfl) ?_
  refine lv_dup hx hb dX7_init_34 rfl ?_
  refine qc_IN (As := []) (rest := [.ref q5, .int (1 : Int32), .ref q1]) ⟨hx, hb, hml, hown, hts⟩ (mX6_init l G q5 (wQ G u4 qI ++ ([(q2, .inl (G.2.1 1, 2, .inl (fun _ => 0)))] ++ ([(q1, .inl (G.2.1 3, 2, .inr (.inr (.inr (.inr (va_up (fun _ => none) (Int32.toNatClampNeg (0 : Int32)) (some (u4 0))))))))] ++ ([(h0, .inr (7, [.ref q1, .ref q2]))] ++ R)))) _) ⟨va_cnB 0 hts gX7_init_X6_init_n21 rfl rfl rfl (hKn.2.1 _ (List.mem_of_getElem? (i := 6) rfl)) (hts _ lX7_init_nX6) (by decide +kernel) ⟨Nat.le_of_ble_eq_true rfl, Nat.le_of_ble_eq_true rfl⟩, rfl, (hts _ lX7_init_yX6_init)⟩ hP hD hS hA hKn hEx rfl hl.1 rfl (Nat.le_of_ble_eq_true rfl) dX7_init_35 ⟨Nat.le_of_ble_eq_true rfl, Nat.le_of_ble_eq_true rfl⟩ (fun u6 H locs hu hP hD hS => ?_)
  have hu : u6 0 = q5 := hu
  rw [← hu]
  have hP : va_P G.1 vwCl (wQ G u6 qI ++ (wQ G u4 qI ++ ([(q2, .inl (G.2.1 1, 2, .inl (fun _ => 0)))] ++ ([(q1, .inl (G.2.1 3, 2, .inr (.inr (.inr (.inr (va_up (fun _ => none) (Int32.toNatClampNeg (0 : Int32)) (some (u4 0))))))))] ++ ([(h0, .inr (7, [.ref q1, .ref q2]))] ++ R))))) H := hP
  have hD : va_D A (wQ G u6 qI ++ (wQ G u4 qI ++ ([(q2, .inl (G.2.1 1, 2, .inl (fun _ => 0)))] ++ ([(q1, .inl (G.2.1 3, 2, .inr (.inr (.inr (.inr (va_up (fun _ => none) (Int32.toNatClampNeg (0 : Int32)) (some (u4 0))))))))] ++ ([(h0, .inr (7, [.ref q1, .ref q2]))] ++ R))))) := hD
  refine W.widen (k := 38) (n := 476) (Nat.le_of_ble_eq_true rfl) (Nat.le_of_ble_eq_true rfl) ?_
  refine va_astq hx hb hKn.k hP hD hS 37 3 0 6 rfl rfl rfl rfl (by unfold vp_in; decide) dX7_init_38 (fun H locs hP hD hS => ?_)
  have hP : va_P G.1 vwCl (wQ G u6 qI ++ (wQ G u4 qI ++ ([(q2, .inl (G.2.1 1, 2, .inl (fun _ => 0)))] ++ ([(q1, .inl (G.2.1 3, 2, .inr (.inr (.inr (.inr (va_up (va_up (fun _ => none) (Int32.toNatClampNeg (0 : Int32)) (some (u4 0))) (Int32.toNatClampNeg (1 : Int32)) (some (u6 0))))))))] ++ ([(h0, .inr (7, [.ref q1, .ref q2]))] ++ R))))) H := hP
  have hD : va_D A (wQ G u6 qI ++ (wQ G u4 qI ++ ([(q2, .inl (G.2.1 1, 2, .inl (fun _ => 0)))] ++ ([(q1, .inl (G.2.1 3, 2, .inr (.inr (.inr (.inr (va_up (va_up (fun _ => none) (Int32.toNatClampNeg (0 : Int32)) (some (u4 0))) (Int32.toNatClampNeg (1 : Int32)) (some (u6 0))))))))] ++ ([(h0, .inr (7, [.ref q1, .ref q2]))] ++ R))))) := hD
  refine lv_iinc (v := (2 : Int32)) (lv' := [(1, .int (2 : Int32)), (0, .ref h0)]) hx hb dX7_init_39 hl (k := 0) rfl (by decide) (by decide) rfl (fun ls hl => ?_)
  refine lv_goto (tgt := 21) hx hb dX7_init_42 (by decide) ?_
  refine lv_iload_n hx hb dX7_init_21 rfl (lv_at hl 0 rfl) ?_
  refine lv_iconst (v := (2 : Int32)) hx hb dX7_init_22 (by decide) ?_
  refine lv_icmp_ge (tgt := 45) hx hb dX7_init_23 (by decide) (fun c1 => ?_) (fun c1 => absurd (by decide) c1)
  obtain ⟨hP, hD⟩ := q_perm ((((List.perm_append_comm_assoc _ _ _).trans (((List.perm_append_comm_assoc _ _ _).append_left _).trans (List.perm_append_comm_assoc _ _ _))).trans (((((List.perm_append_comm_assoc _ _ _).append_left _).trans (List.perm_append_comm_assoc _ _ _)).append_left _).trans (List.perm_append_comm_assoc _ _ _))).trans (((((((List.perm_append_comm_assoc _ _ _).append_left _).trans (List.perm_append_comm_assoc _ _ _)).append_left _).trans (List.perm_append_comm_assoc _ _ _)).append_left _).trans (List.perm_append_comm_assoc _ _ _))) hP hD
  have hP : va_P G.1 vwCl ([(h0, .inr (7, [.ref q1, .ref q2]))] ++ ([(q1, .inl (G.2.1 3, 2, .inr (.inr (.inr (.inr (va_up (va_up (fun _ => none) (Int32.toNatClampNeg (0 : Int32)) (some (u4 0))) (Int32.toNatClampNeg (1 : Int32)) (some (u6 0))))))))] ++ ([(q2, .inl (G.2.1 1, 2, .inl (fun _ => 0)))] ++ (wQ G u4 qI ++ (wQ G u6 qI ++ R))))) _ := hP
  have hD : va_D A ([(h0, .inr (7, [.ref q1, .ref q2]))] ++ ([(q1, .inl (G.2.1 3, 2, .inr (.inr (.inr (.inr (va_up (va_up (fun _ => none) (Int32.toNatClampNeg (0 : Int32)) (some (u4 0))) (Int32.toNatClampNeg (1 : Int32)) (some (u6 0))))))))] ++ ([(q2, .inl (G.2.1 1, 2, .inl (fun _ => 0)))] ++ (wQ G u4 qI ++ (wQ G u6 qI ++ R))))) := hD
  obtain ⟨hP, hD⟩ := q_row (G := G) (k := 1) (q := q1) (n := 2) (f := va_up (va_up (fun _ => none) (Int32.toNatClampNeg (0 : Int32)) (some (u4 0))) (Int32.toNatClampNeg (1 : Int32)) (some (u6 0))) (g := fun j => some ((fun j => (if j = 0 then u4 else (if j = 1 then u6 else (fun _ => 0)))) j 0)) rfl (fun j hj => by rcases (show j = 0 ∨ j = 1 by omega) with rfl | rfl <;> rfl) hP hD
  have hP : va_P G.1 vwCl ([(h0, .inr (7, [.ref q1, .ref q2]))] ++ ([(q1, .inl (G.2.1 3, 2, .inr (.inr (.inr (.inr (fun j => some ((fun j => (if j = 0 then u4 else (if j = 1 then u6 else (fun _ => 0)))) j 0)))))))] ++ ([(q2, .inl (G.2.1 1, 2, .inl (fun _ => 0)))] ++ (wQ G u4 qI ++ (wQ G u6 qI ++ R))))) H := hP
  have hD : va_D A ([(h0, .inr (7, [.ref q1, .ref q2]))] ++ ([(q1, .inl (G.2.1 3, 2, .inr (.inr (.inr (.inr (fun j => some ((fun j => (if j = 0 then u4 else (if j = 1 then u6 else (fun _ => 0)))) j 0)))))))] ++ ([(q2, .inl (G.2.1 1, 2, .inl (fun _ => 0)))] ++ (wQ G u4 qI ++ (wQ G u6 qI ++ R))))) := hD
  exact W.vret hx hb hr (fun t ht hW => q_rv (post := fun (u : (Nat → Nat) × (Nat → Nat → Nat)) => u.1 3 = h0) (W' := fun (u : (Nat → Nat) × (Nat → Nat → Nat)) => [(u.1 3, .inr (7, [.ref (u.1 5), .ref (u.1 4)])), (u.1 5, .inl (G.2.1 3, 2, .inr (.inr (.inr (.inr (fun j => some (u.2 j 0))))))), (u.1 4, .inl (G.2.1 1, 2, .inl (fun _ => 0)))] ++ (wQ G (u.2 0) qI ++ (wQ G (u.2 1) qI ++ R))) (u := (((fun n => (if n = 3 then h0 else (if n = 5 then q1 else (if n = 4 then q2 else 0)))), (fun j => (if j = 0 then u4 else (if j = 1 then u6 else (fun _ => 0))))) : (Nat → Nat) × (Nat → Nat → Nat))) hAe rfl hP hD hS ht) hS.2.2 dX7_init_45
abbrev rmX5_init : Room := { frames := 1, cells := 2, slots := 86, locals := 12 }
theorem lX5_init_achar : Cond.arrayClass .char ∈ wsX5_init := by decide +kernel
theorem lX5_init_aint : Cond.arrayClass .int ∈ wsX5_init := by decide +kernel
theorem lX5_init_co : Cond.code objectInit ⟨#[0xb1]⟩ 1 none ∈ wsX5_init := by decide +kernel
theorem lX5_init_f15 : Cond.fieldLink RX5 15 "QuarryBlends$Pad" "numbers" "[I" ∈ wsX5_init := by decide +kernel
theorem lX5_init_f9 : Cond.fieldLink RX5 9 "QuarryBlends$Pad" "characters" "[C" ∈ wsX5_init := by decide +kernel
theorem lX5_init_io : Cond.instanceMethod objectInit ∈ wsX5_init := by decide +kernel
theorem lX5_init_m3 : Cond.methodLink RX5 3 objectInit ∈ wsX5_init := by decide +kernel
theorem iX5_init_X5 : ∀ w ∈ wsX50, w ∈ wsX5_init := by decide +kernel
set_option maxHeartbeats 4000000 in
set_option maxRecDepth 100000 in
theorem mX5_init (l : Launch) (G : qG) (h0 : Nat) (R : va_W) (sz : Nat) : Met l yX5_init wsX5_init rmX5_init (qPn G [.ref h0] ([(h0, .inr (5, [.null, .int 0, .int 0, .int 0, .null, .int 0]))] ++ R) sz) (qQv G ([(h0, .inr (5, [.null, .int 0, .int 0, .int 0, .null, .int 0]))] ++ R) sz (fun (u : Nat → Nat) => u 0 = h0) (fun (u : Nat → Nat) => [(u 0, .inr (5, [.ref (u 1), .int 0, .int 0, .int 0, .ref (u 2), .int 0])), (u 1, .inl (G.2.1 2, 80, .inl (fun _ => 0))), (u 2, .inl (G.2.1 0, 6, .inl (fun _ => 0)))] ++ R)) 2 86 (va_A ([(h0, .inr (5, [.null, .int 0, .int 0, .int 0, .null, .int 0]))] ++ R) sz) := by
  refine Met.ofW (cc := cX5_init) (maxL := 1) (ret := none) (by decide) rfl ?_
  intro p e s m args below meth c s₁ B hml hv
  obtain ⟨rfl, hsz, hP, hD0, hKn0, hEx0⟩ := hv
  have hx := B.exec
  have hb := B.bytes
  have hr := B.returns
  have hts := atoms_spec (ws := wsX5_init) B.pre
  have hown : s.vm.findClass RX5 = some m.cls := findClass_of_methodNamed B.named
  have hlocks := B.notSynchronized
  have hin : meth.name = "<init>" := (name_of_methodNamed B.named B.method).1
  subst hsz
  have hD := hD0.self (sz := s.heap.size)
  generalize hAe : va_A ([(h0, .inr (5, [.null, .int 0, .int 0, .int 0, .null, .int 0]))] ++ R) s.heap.size = A at hD hKn0 hEx0 ⊢
  have hA : ∀ q : Nat, s.heap.size ≤ q → A q := fun q h => by rw [← hAe]; exact Or.inr h
  have hKn : qKn G A s s.heap := hKn0
  have hEx : qEx G A s s.heap := hEx0
  have hS : va_S A s.heap s.heap [] := va_S.rf
  have hl := lv_entry ([.ref h0]) (n := 1) (Nat.le_of_ble_eq_true rfl)
  rw [lg_entry_eq]
  generalize (lg_sl ([.ref h0]) ++ List.replicate (1 - (lg_sl ([.ref h0])).length) Slot.unset).toArray = ls at hl ⊢
  have hl : lv_has ls 1 [(0, .ref h0)] := hl
  show W p l e rmX5_init s m #[.ref h0] below meth c s.heap [] 0 0 _ _
  refine lv_aload_n hx hb dX5_init_0 rfl (lv_at hl 0 rfl) ?_
  refine W.objInit hx hb hown (hts _ lX5_init_m3) (hts _ lX5_init_io) (hts _ lX5_init_co) rfl (by rw [hml]; exact hl.1) rfl dX5_init_1 (Nat.le_of_ble_eq_true rfl) (Nat.le_of_ble_eq_true rfl) ?_
  refine W.eq (g2 := F0 m 4 ls []) rfl ?_
  refine lv_aload_n hx hb dX5_init_4 rfl (lv_at hl 0 rfl) ?_
  refine lv_bipush (v := (80 : Int32)) hx hb dX5_init_5 (by decide) ?_
  refine q_newa (atype := .char) (ty := .char) (N' := 80) (a0 := (80, .inl (fun _ => 0))) hx hb (hts _ lX5_init_achar) rfl hP hD hS hA hKn 2 rfl (fun _ h => h) (fun _ => rfl) (by decide) (by decide) (Nat.le_of_ble_eq_true rfl) (Nat.le_of_ble_eq_true rfl) (Nat.le_of_ble_eq_true rfl) dX5_init_7 (fun q1 H hP hD hS => ?_)
  have hP : va_P G.1 vwCl ([(q1, .inl (G.2.1 2, 80, .inl (fun _ => 0)))] ++ ([(h0, .inr (5, [.null, .int 0, .int 0, .int 0, .null, .int 0]))] ++ R)) H := hP
  have hD : va_D A ([(q1, .inl (G.2.1 2, 80, .inl (fun _ => 0)))] ++ ([(h0, .inr (5, [.null, .int 0, .int 0, .int 0, .null, .int 0]))] ++ R)) := hD
  refine W.widen (k := 1) (n := 80) (Nat.le_of_ble_eq_true rfl) (Nat.le_of_ble_eq_true rfl) ?_
  refine va_putF (D := G.1) (ci := 5) (v := .ref q1) (ty := .array .char) (C := RX5) (T := TX5) (N := 6) hx hb hts iX5_init_X5 tyX5 tyX5_ok nmX5 hown hKn.k hP hD hS 1 rfl rfl 0 (by decide) (hts _ lX5_init_f9) (fun _ h9 => h9) rfl hin rfl (by decide +kernel) rfl rfl (Nat.le_of_ble_eq_true rfl) dX5_init_9 (fun H locs hP hD hS => ?_)
  have hP : va_P G.1 vwCl ([(q1, .inl (G.2.1 2, 80, .inl (fun _ => 0)))] ++ ([(h0, .inr (5, [.ref q1, .int 0, .int 0, .int 0, .null, .int 0]))] ++ R)) H := hP
  have hD : va_D A ([(q1, .inl (G.2.1 2, 80, .inl (fun _ => 0)))] ++ ([(h0, .inr (5, [.ref q1, .int 0, .int 0, .int 0, .null, .int 0]))] ++ R)) := hD
  refine lv_aload_n hx hb dX5_init_12 rfl (lv_at hl 0 rfl) ?_
  refine lv_bipush (v := (6 : Int32)) hx hb dX5_init_13 (by decide) ?_
  refine q_newa (atype := .int) (ty := .int) (N' := 6) (a0 := (6, .inl (fun _ => 0))) hx hb (hts _ lX5_init_aint) rfl hP hD hS hA hKn 0 rfl (fun _ h => h) (fun _ => rfl) (by decide) (by decide) (Nat.le_of_ble_eq_true rfl) (Nat.le_of_ble_eq_true rfl) (Nat.le_of_ble_eq_true rfl) dX5_init_15 (fun q2 H hP hD hS => ?_)
  have hP : va_P G.1 vwCl ([(q2, .inl (G.2.1 0, 6, .inl (fun _ => 0)))] ++ ([(q1, .inl (G.2.1 2, 80, .inl (fun _ => 0)))] ++ ([(h0, .inr (5, [.ref q1, .int 0, .int 0, .int 0, .null, .int 0]))] ++ R))) H := hP
  have hD : va_D A ([(q2, .inl (G.2.1 0, 6, .inl (fun _ => 0)))] ++ ([(q1, .inl (G.2.1 2, 80, .inl (fun _ => 0)))] ++ ([(h0, .inr (5, [.ref q1, .int 0, .int 0, .int 0, .null, .int 0]))] ++ R))) := hD
  refine W.widen (k := 2) (n := 86) (Nat.le_of_ble_eq_true rfl) (Nat.le_of_ble_eq_true rfl) ?_
  refine va_putF (D := G.1) (ci := 5) (v := .ref q2) (ty := .array .int) (C := RX5) (T := TX5) (N := 6) hx hb hts iX5_init_X5 tyX5 tyX5_ok nmX5 hown hKn.k hP hD hS 2 rfl rfl 4 (by decide) (hts _ lX5_init_f15) (fun _ h9 => h9) rfl hin rfl (by decide +kernel) rfl rfl (Nat.le_of_ble_eq_true rfl) dX5_init_17 (fun H locs hP hD hS => ?_)
  have hP : va_P G.1 vwCl ([(q2, .inl (G.2.1 0, 6, .inl (fun _ => 0)))] ++ ([(q1, .inl (G.2.1 2, 80, .inl (fun _ => 0)))] ++ ([(h0, .inr (5, [.ref q1, .int 0, .int 0, .int 0, .ref q2, .int 0]))] ++ R))) H := hP
  have hD : va_D A ([(q2, .inl (G.2.1 0, 6, .inl (fun _ => 0)))] ++ ([(q1, .inl (G.2.1 2, 80, .inl (fun _ => 0)))] ++ ([(h0, .inr (5, [.ref q1, .int 0, .int 0, .int 0, .ref q2, .int 0]))] ++ R))) := hD
  obtain ⟨hP, hD⟩ := q_perm ((List.perm_append_comm_assoc _ _ _).trans (((List.perm_append_comm_assoc _ _ _).append_left _).trans (List.perm_append_comm_assoc _ _ _))) hP hD
  have hP : va_P G.1 vwCl ([(h0, .inr (5, [.ref q1, .int 0, .int 0, .int 0, .ref q2, .int 0]))] ++ ([(q1, .inl (G.2.1 2, 80, .inl (fun _ => 0)))] ++ ([(q2, .inl (G.2.1 0, 6, .inl (fun _ => 0)))] ++ R))) _ := hP
  have hD : va_D A ([(h0, .inr (5, [.ref q1, .int 0, .int 0, .int 0, .ref q2, .int 0]))] ++ ([(q1, .inl (G.2.1 2, 80, .inl (fun _ => 0)))] ++ ([(q2, .inl (G.2.1 0, 6, .inl (fun _ => 0)))] ++ R))) := hD
  exact W.vret hx hb hr (fun t ht hW => q_rv (post := fun (u : Nat → Nat) => u 0 = h0) (W' := fun (u : Nat → Nat) => [(u 0, .inr (5, [.ref (u 1), .int 0, .int 0, .int 0, .ref (u 2), .int 0])), (u 1, .inl (G.2.1 2, 80, .inl (fun _ => 0))), (u 2, .inl (G.2.1 0, 6, .inl (fun _ => 0)))] ++ R) (u := ((fun n => (if n = 0 then h0 else (if n = 1 then q1 else (if n = 2 then q2 else 0)))) : Nat → Nat)) hAe rfl hP hD hS ht) hS.2.2 dX5_init_20
