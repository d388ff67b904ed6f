/-! ===== copies between arrays; quarries in a row ===== -/
theorem vp_lt {i : Int32} {n : Nat} (h : vp_in i n) : Int32.toNatClampNeg i < n := Nat.not_le.mp (fun q => h (Or.inr q))
abbrev rmX9_copyAll : Room := { frames := 1, cells := 0, slots := 0, locals := 18 }
set_option maxHeartbeats 4000000 in
set_option maxRecDepth 100000 in
/-- copyAll between two int arrays of the same length n that stand at the places i and j of any world -/
theorem m_copyAll (l : Launch) (G : qG) (ws : va_W) (i j n : Nat) (sz : Nat) {h1 h0 : Nat} {f g : Nat → Int32} (hn : n < 1000) (e1 : ws[i]? = some (h1, .inl (G.2.1 0, n, .inl f))) (e0 : ws[j]? = some (h0, .inl (G.2.1 0, n, .inl g))) : Met l yX9_copyAll wsX9_copyAll rmX9_copyAll (qPc G [.ref h1, .ref h0] ws sz True) (qQv G ws sz (fun (_ : Unit) => True) (fun _ => ws.set j (h0, .inl (G.2.1 0, n, .inl (va_cpy f g 0 0 n))))) 0 0 (va_A ws sz) := by
  refine Met.ofW (cc := cX9_copyAll) (maxL := 2) (ret := none) (by decide) rfl ?_
  intro p e s m args below meth c s₁ B hml hv
  obtain ⟨rfl, hsz, hP, hD0, hKn0, -⟩ := hv
  have hx := B.exec
  have hb := B.bytes
  have hr := B.returns
  have hts := atoms_spec (ws := wsX9_copyAll) B.pre
  have hown : s.vm.findClass RX9 = some m.cls := findClass_of_methodNamed B.named
  have hlocks := B.notSynchronized
  subst hsz
  have hD := hD0.self (sz := s.heap.size)
  generalize hAe : va_A ws s.heap.size = A at hD hKn0 ⊢
  have hA : ∀ q : Nat, s.heap.size ≤ q → A q := fun q h => by rw [← hAe]; exact Or.inr h
  have hKn : qKn G A s s.heap := hKn0
  have hS : va_S A s.heap s.heap [] := va_S.rf
  have hl := lv_entry ([.ref h1, .ref h0]) (n := 2) (Nat.le_of_ble_eq_true rfl)
  rw [lg_entry_eq]
  generalize (lg_sl ([.ref h1, .ref h0]) ++ List.replicate (2 - (lg_sl ([.ref h1, .ref h0])).length) Slot.unset).toArray = ls at hl ⊢
  have hl : lv_has ls 2 [(0, .ref h1), (1, .ref h0)] := hl
  show W p l e rmX9_copyAll s m #[.ref h1, .ref h0] below meth c s.heap [] 0 0 _ _
  refine lv_aload_n hx hb dX9_copyAll_0 rfl (lv_at hl 0 rfl) ?_
  refine lv_iconst (v := (0 : Int32)) hx hb dX9_copyAll_1 (by decide) ?_
  refine lv_aload_n hx hb dX9_copyAll_2 rfl (lv_at hl 1 rfl) ?_
  refine lv_iconst (v := (0 : Int32)) hx hb dX9_copyAll_3 (by decide) ?_
  refine lv_aload_n hx hb dX9_copyAll_4 rfl (lv_at hl 0 rfl) ?_
  refine va_alen (v := nI n) hx hb hKn.k hP i 0 e1 rfl rfl dX9_copyAll_5 ?_
  refine lv_aload_n hx hb dX9_copyAll_6 rfl (lv_at hl 1 rfl) ?_
  refine va_alen (v := nI n) hx hb hKn.k hP j 0 e0 rfl rfl dX9_copyAll_7 ?_
  refine va_mmin hx hb (hml.trans hl.1.symm) hown (hts (.methodLink RX9 257 Lib.Math.min.name) (by decide +kernel)) (hts (.static Lib.Math.min.name) (by decide +kernel)) (hts (.initialized "java/lang/Math") (by decide +kernel)) (hts (.code Lib.Math.min.name Lib.Math.min.code 2 (some .int)) (by decide +kernel)) (Nat.le_of_ble_eq_true rfl) (Nat.le_of_ble_eq_true rfl) (Nat.zero_le _) (Nat.zero_le _) dX9_copyAll_8 ?_
  have en : (if nI n < nI n then nI n else nI n) = nI n := by split <;> rfl
  rw [en]
  have cn : (nI n).toNatClampNeg = n := nI_clamp (by omega)
  have c0 : (0 : Int32).toNatClampNeg = 0 := by decide
  refine va_copyi hx hb (hml.trans hl.1.symm) hown (hts (.methodLink RX9 262 arraycopyName) (by decide +kernel)) (hts (.native arraycopyName) (by decide +kernel)) (hts (.static arraycopyName) (by decide +kernel)) (hts (.initialized "java/lang/System") (by decide +kernel)) hKn.k hP hD hS i j 0 0 e1 e0 rfl rfl rfl (by decide) (by decide) (nI_pos (by omega)) (by rw [cn, c0]; omega) (by rw [cn, c0]; omega) (fun _ _ => rfl) (Nat.le_of_ble_eq_true rfl) (by decide +kernel) dX9_copyAll_11 (fun H locs hP hD hS => ?_)
  rw [cn, c0] at hP hD
  exact W.vret hx hb hr (fun t ht hW => q_rv (u := ()) hAe trivial hP hD hS ht) hS.2.2 dX9_copyAll_14
abbrev upZ (zs : Nat → qS) (i : Nat) (x : qS) : Nat → qS := fun j => if j = i then x else zs j
/-- the history's seven quarries and the slots' two -/
def wZ (G : qG) (az : Nat → Nat → Nat) (zs : Nat → qS) : va_W := (List.range 9).flatMap (fun i => wQ G (az i) (zs i))
def wZr (G : qG) (i : Nat) (az : Nat → Nat → Nat) (zs : Nat → qS) : va_W := ((List.range 9).erase i).flatMap (fun i => wQ G (az i) (zs i))
theorem wZ_pick {G : qG} {az : Nat → Nat → Nat} {zs : Nat → qS} {i : Nat} (hi : i < 9) : (wZ G az zs).Perm (wQ G (az i) (zs i) ++ wZr G i az zs) := by
  have h : (List.range 9).Perm (i :: (List.range 9).erase i) := List.perm_cons_erase (List.mem_range.mpr hi)
  exact h.flatMap_right _
theorem wZr_up {G : qG} {az : Nat → Nat → Nat} {zs : Nat → qS} {i : Nat} {x : qS} : wZr G i az (upZ zs i x) = wZr G i az zs := by
  unfold wZr
  have hn : ((List.range 9).erase i).Nodup := (List.nodup_range (n := 9)).erase i
  have hni : i ∉ (List.range 9).erase i := fun h => ((List.nodup_range (n := 9)).mem_erase_iff.mp h).1 rfl
  generalize (List.range 9).erase i = l at hni
  induction l with
  | nil => rfl
  | cons b l ih =>
    rw [List.flatMap_cons, List.flatMap_cons, ih (fun h => hni (List.mem_cons_of_mem _ h))]
    have hb : ¬ b = i := fun e => hni (by rw [e]; exact List.mem_cons_self)
    unfold upZ
    rw [if_neg hb]
theorem z_open {G : qG} {az : Nat → Nat → Nat} {zs : Nat → qS} {i : Nat} {X1 X2 X3 X4 R : va_W} (hi : i < 9) : (X1 ++ (X2 ++ (X3 ++ (X4 ++ (wZ G az zs ++ R))))).Perm (X1 ++ (X2 ++ (X3 ++ (X4 ++ (wQ G (az i) (zs i) ++ (wZr G i az zs ++ R)))))) := by
  have h := (wZ_pick (G := G) (az := az) (zs := zs) hi).append_right R
  rw [List.append_assoc] at h
  exact (((h.append_left X4).append_left X3).append_left X2).append_left X1
theorem z_close {G : qG} {az : Nat → Nat → Nat} {zs : Nat → qS} {i : Nat} {x : qS} {X1 X2 X3 X4 R : va_W} (hi : i < 9) : (X1 ++ (X2 ++ (X3 ++ (X4 ++ (wQ G (az i) x ++ (wZr G i az zs ++ R)))))).Perm (X1 ++ (X2 ++ (X3 ++ (X4 ++ (wZ G az (upZ zs i x) ++ R))))) := by
  have h := z_open (G := G) (az := az) (zs := upZ zs i x) (i := i) (X1 := X1) (X2 := X2) (X3 := X3) (X4 := X4) (R := R) hi
  have e : upZ zs i x i = x := by unfold upZ; rw [if_pos rfl]
  rw [wZr_up, e] at h
  exact h.symm
