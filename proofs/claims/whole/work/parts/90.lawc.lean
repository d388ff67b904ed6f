/-! ===== the law: a row a case, its loop ===== -/
theorem law_in {i L k : Nat} {x3 : Int32} (h : i + k < L) (hL : L ≤ 3584) (ex : x3 = nI i) : vp_in (x3 + nI k) L := by
  rw [ex, nI_add]; exact vp_in_nI h (by omega)
theorem lL_c78 : Cond.constantLong RL 78 (4294967295) ∈ wsL_law := by decide +kernel
set_option maxHeartbeats 4000000 in
set_option maxRecDepth 100000 in
theorem law_c0 {p : Program} {l : Launch} {e : Env} {s : State} {m : MethodId} {below : List Frame} {meth : Method} {c : Code} {sb L : Nat} {xs : Nat → Int32} {G : qG} {A : Nat → Prop} {a bb ae g am : Nat → Nat} {az : Nat → Nat → Nat} {Qf : State → Prop} (hx : p.tables.exec = Jvm.exec) (hb : c.code = code) (hml : c.maxLocals = 4) (hown : s.vm.findClass RL = some m.cls) (hts : ∀ w ∈ wsL_law, w.before #[Value.ref sb] s = true) (hX : va_X sb L xs s s.heap) (hbl : sb < s.heap.size) (hbA : ¬ A sb) (hA : ∀ q : Nat, s.heap.size ≤ q → A q) (hKn : qKn G A s s.heap) (hL : L ≤ 3584) {x3 : Int32} {i : Nat} (hi : i + 7 ≤ L) (ex : x3 = nI i) (hk : ∀ (q o d tq : qS) (zs : Nat → qS) (m1 : qS) (H : Heap) (locs : List Loc) (ls : Array Slot), JJ q o d zs m1 → va_P G.1 vwCl (wQ G a q ++ (wO G a bb ae g az o ++ (wD G g d ++ (wQ G ae tq ++ (wZ G az zs ++ (wM G am m1 ++ [])))))) H → va_D A (wQ G a q ++ (wO G a bb ae g az o ++ (wD G g d ++ (wQ G ae tq ++ (wZ G az zs ++ (wM G am m1 ++ [])))))) → va_S A s.heap H locs → lv_has ls 4 [(0, .ref sb), (1, .ref (bb 0)), (2, .ref (am 0)), (3, .int x3)] → W p l e room_1 s m #[Value.ref sb] below meth c H locs 600000 7302249 Qf (F0 m 764 ls [])) {q o d tq : qS} {zs : Nat → qS} {m1 : qS} {H : Heap} {locs : List Loc} {ls : Array Slot} (hJ : JJ q o d zs m1) (hP : va_P G.1 vwCl (wQ G a q ++ (wO G a bb ae g az o ++ (wD G g d ++ (wQ G ae tq ++ (wZ G az zs ++ (wM G am m1 ++ [])))))) H) (hD : va_D A (wQ G a q ++ (wO G a bb ae g az o ++ (wD G g d ++ (wQ G ae tq ++ (wZ G az zs ++ (wM G am m1 ++ []))))))) (hS : va_S A s.heap H locs) (hl : lv_has ls 4 [(0, .ref sb), (1, .ref (bb 0)), (2, .ref (am 0)), (3, .int x3)]) : W p l e room_1 s m #[Value.ref sb] below meth c H locs 600000 7302249 Qf (F0 m 136 ls []) := by
  refine lv_aload_n hx hb dL_law_136 rfl (lv_at hl 1 rfl) ?_
  refine lv_aload_n hx hb dL_law_137 rfl (lv_at hl 0 rfl) ?_
  refine lv_iload_n hx hb dL_law_138 rfl (lv_at hl 3 rfl) ?_
  refine lv_iconst (v := (1 : Int32)) hx hb dL_law_139 (by decide) ?_
  refine lv_iadd hx hb dL_law_140 ?_
  refine va_sld hx hb hX hbl hbA hS (law_in (k := 1) (by omega) hL ex) dL_law_141 ?_
  refine lv_aload_n hx hb dL_law_142 rfl (lv_at hl 0 rfl) ?_
  refine lv_iload_n hx hb dL_law_143 rfl (lv_at hl 3 rfl) ?_
  refine lv_iconst (v := (2 : Int32)) hx hb dL_law_144 (by decide) ?_
  refine lv_iadd hx hb dL_law_145 ?_
  refine va_sld hx hb hX hbl hbA hS (law_in (k := 2) (by omega) hL ex) dL_law_146 ?_
  have h : wX9_set (fun r q o d tq zs => wX10_set (fun r2 m => r = r2 ∧ JJ q o d zs m) m1 (xs (Int32.toNatClampNeg (x3 + (1 : Int32)))) (xs (Int32.toNatClampNeg (x3 + (2 : Int32))))) q o d tq zs (xs (Int32.toNatClampNeg (x3 + (1 : Int32)))) (xs (Int32.toNatClampNeg (x3 + (2 : Int32)))) := j_set hJ
  refine qc_vi (As := [.int (xs (Int32.toNatClampNeg (x3 + (1 : Int32)))), .int (xs (Int32.toNatClampNeg (x3 + (2 : Int32))))]) (rest := []) ⟨hx, hb, hml, hown, hts⟩ (mX9_set l G _ _ a bb g ae az q o d tq zs _ (xs (Int32.toNatClampNeg (x3 + (1 : Int32)))) (xs (Int32.toNatClampNeg (x3 + (2 : Int32))))) (cwV 2 hts gL_law_X9_set rfl rfl rfl (by decide +kernel) ⟨Nat.le_of_ble_eq_true rfl, Nat.le_of_ble_eq_true rfl⟩) hP hD hS hA hKn 18 9 rfl rfl rfl h rfl hl.1 rfl (Nat.le_of_ble_eq_true rfl) dL_law_147 ⟨Nat.le_of_ble_eq_true rfl, Nat.le_of_ble_eq_true rfl⟩ (fun r u H locs h hP hD hS => ?_)
  obtain ⟨q, o, d, tq, zs⟩ := u
  have hP : va_P G.1 vwCl (wQ G a q ++ (wO G a bb ae g az o ++ (wD G g d ++ (wQ G ae tq ++ (wZ G az zs ++ (wM G am m1 ++ [])))))) H := hP
  have hD : va_D A (wQ G a q ++ (wO G a bb ae g az o ++ (wD G g d ++ (wQ G ae tq ++ (wZ G az zs ++ (wM G am m1 ++ [])))))) := hD
  have h : wX10_set (fun r2 m => r = r2 ∧ JJ q o d zs m) m1 (xs (Int32.toNatClampNeg (x3 + (1 : Int32)))) (xs (Int32.toNatClampNeg (x3 + (2 : Int32)))) := h
  refine lv_aload_n hx hb dL_law_150 rfl (lv_at hl 2 rfl) ?_
  refine lv_aload_n hx hb dL_law_151 rfl (lv_at hl 0 rfl) ?_
  refine lv_iload_n hx hb dL_law_152 rfl (lv_at hl 3 rfl) ?_
  refine lv_iconst (v := (1 : Int32)) hx hb dL_law_153 (by decide) ?_
  refine lv_iadd hx hb dL_law_154 ?_
  refine va_sld hx hb hX hbl hbA hS (law_in (k := 1) (by omega) hL ex) dL_law_155 ?_
  refine lv_aload_n hx hb dL_law_156 rfl (lv_at hl 0 rfl) ?_
  refine lv_iload_n hx hb dL_law_157 rfl (lv_at hl 3 rfl) ?_
  refine lv_iconst (v := (2 : Int32)) hx hb dL_law_158 (by decide) ?_
  refine lv_iadd hx hb dL_law_159 ?_
  refine va_sld hx hb hX hbl hbA hS (law_in (k := 2) (by omega) hL ex) dL_law_160 ?_
  obtain ⟨hP, hD⟩ := q_perm (((((((((List.perm_append_comm_assoc _ _ _).append_left _).trans (List.perm_append_comm_assoc _ _ _)).append_left _).trans (List.perm_append_comm_assoc _ _ _)).append_left _).trans (List.perm_append_comm_assoc _ _ _)).append_left _).trans (List.perm_append_comm_assoc _ _ _)) hP hD
  have hP : va_P G.1 vwCl (wM G am m1 ++ (wQ G a q ++ (wO G a bb ae g az o ++ (wD G g d ++ (wQ G ae tq ++ (wZ G az zs ++ [])))))) H := hP
  have hD : va_D A (wM G am m1 ++ (wQ G a q ++ (wO G a bb ae g az o ++ (wD G g d ++ (wQ G ae tq ++ (wZ G az zs ++ [])))))) := hD
  refine qc_vi (As := [.int (xs (Int32.toNatClampNeg (x3 + (1 : Int32)))), .int (xs (Int32.toNatClampNeg (x3 + (2 : Int32))))]) (rest := [.int r]) ⟨hx, hb, hml, hown, hts⟩ (mX10_set l G _ _ am m1 _ (xs (Int32.toNatClampNeg (x3 + (1 : Int32)))) (xs (Int32.toNatClampNeg (x3 + (2 : Int32))))) (cwV 2 hts gL_law_X10_set rfl rfl rfl (by decide +kernel) ⟨Nat.le_of_ble_eq_true rfl, Nat.le_of_ble_eq_true rfl⟩) hP hD hS hA hKn 0 10 rfl rfl rfl h rfl hl.1 rfl (Nat.le_of_ble_eq_true rfl) dL_law_161 ⟨Nat.le_of_ble_eq_true rfl, Nat.le_of_ble_eq_true rfl⟩ (fun r2 m1 H locs h hP hD hS => ?_)
  have hP : va_P G.1 vwCl (wM G am m1 ++ (wQ G a q ++ (wO G a bb ae g az o ++ (wD G g d ++ (wQ G ae tq ++ (wZ G az zs ++ [])))))) H := hP
  have hD : va_D A (wM G am m1 ++ (wQ G a q ++ (wO G a bb ae g az o ++ (wD G g d ++ (wQ G ae tq ++ (wZ G az zs ++ [])))))) := hD
  obtain ⟨hP, hD⟩ := q_perm ((((((((((List.perm_append_comm_assoc _ _ _).append_left _).trans (List.perm_append_comm_assoc _ _ _)).append_left _).trans (List.perm_append_comm_assoc _ _ _)).append_left _).trans (List.perm_append_comm_assoc _ _ _)).append_left _).trans (List.perm_append_comm_assoc _ _ _))).symm hP hD
  have hP : va_P G.1 vwCl (wQ G a q ++ (wO G a bb ae g az o ++ (wD G g d ++ (wQ G ae tq ++ (wZ G az zs ++ (wM G am m1 ++ [])))))) H := hP
  have hD : va_D A (wQ G a q ++ (wO G a bb ae g az o ++ (wD G g d ++ (wQ G ae tq ++ (wZ G az zs ++ (wM G am m1 ++ [])))))) := hD
  have h : r = r2 ∧ JJ q o d zs m1 := h
  exact lv_icmp_eq (tgt := 764) hx hb dL_law_164 (by decide) (fun c1 => hk q o d tq zs m1 H locs ls h.2 hP hD hS hl) (fun c1 => absurd h.1 c1)
set_option maxHeartbeats 4000000 in
set_option maxRecDepth 100000 in
theorem law_c1 {p : Program} {l : Launch} {e : Env} {s : State} {m : MethodId} {below : List Frame} {meth : Method} {c : Code} {sb L : Nat} {xs : Nat → Int32} {G : qG} {A : Nat → Prop} {a bb ae g am : Nat → Nat} {az : Nat → Nat → Nat} {Qf : State → Prop} (hx : p.tables.exec = Jvm.exec) (hb : c.code = code) (hml : c.maxLocals = 4) (hown : s.vm.findClass RL = some m.cls) (hts : ∀ w ∈ wsL_law, w.before #[Value.ref sb] s = true) (hX : va_X sb L xs s s.heap) (hbl : sb < s.heap.size) (hbA : ¬ A sb) (hA : ∀ q : Nat, s.heap.size ≤ q → A q) (hKn : qKn G A s s.heap) (hL : L ≤ 3584) {x3 : Int32} {i : Nat} (hi : i + 7 ≤ L) (ex : x3 = nI i) (hk : ∀ (q o d tq : qS) (zs : Nat → qS) (m1 : qS) (H : Heap) (locs : List Loc) (ls : Array Slot), JJ q o d zs m1 → va_P G.1 vwCl (wQ G a q ++ (wO G a bb ae g az o ++ (wD G g d ++ (wQ G ae tq ++ (wZ G az zs ++ (wM G am m1 ++ [])))))) H → va_D A (wQ G a q ++ (wO G a bb ae g az o ++ (wD G g d ++ (wQ G ae tq ++ (wZ G az zs ++ (wM G am m1 ++ [])))))) → va_S A s.heap H locs → lv_has ls 4 [(0, .ref sb), (1, .ref (bb 0)), (2, .ref (am 0)), (3, .int x3)] → W p l e room_1 s m #[Value.ref sb] below meth c H locs 600000 7302249 Qf (F0 m 764 ls [])) {q o d tq : qS} {zs : Nat → qS} {m1 : qS} {H : Heap} {locs : List Loc} {ls : Array Slot} (hJ : JJ q o d zs m1) (hP : va_P G.1 vwCl (wQ G a q ++ (wO G a bb ae g az o ++ (wD G g d ++ (wQ G ae tq ++ (wZ G az zs ++ (wM G am m1 ++ [])))))) H) (hD : va_D A (wQ G a q ++ (wO G a bb ae g az o ++ (wD G g d ++ (wQ G ae tq ++ (wZ G az zs ++ (wM G am m1 ++ []))))))) (hS : va_S A s.heap H locs) (hl : lv_has ls 4 [(0, .ref sb), (1, .ref (bb 0)), (2, .ref (am 0)), (3, .int x3)]) : W p l e room_1 s m #[Value.ref sb] below meth c H locs 600000 7302249 Qf (F0 m 169 ls []) := by
  refine lv_aload_n hx hb dL_law_169 rfl (lv_at hl 1 rfl) ?_
  refine lv_aload_n hx hb dL_law_170 rfl (lv_at hl 0 rfl) ?_
  refine lv_iload_n hx hb dL_law_171 rfl (lv_at hl 3 rfl) ?_
  refine lv_iconst (v := (1 : Int32)) hx hb dL_law_172 (by decide) ?_
  refine lv_iadd hx hb dL_law_173 ?_
  refine va_sld hx hb hX hbl hbA hS (law_in (k := 1) (by omega) hL ex) dL_law_174 ?_
  refine lv_aload_n hx hb dL_law_175 rfl (lv_at hl 0 rfl) ?_
  refine lv_iload_n hx hb dL_law_176 rfl (lv_at hl 3 rfl) ?_
  refine lv_iconst (v := (2 : Int32)) hx hb dL_law_177 (by decide) ?_
  refine lv_iadd hx hb dL_law_178 ?_
  refine va_sld hx hb hX hbl hbA hS (law_in (k := 2) (by omega) hL ex) dL_law_179 ?_
  refine lv_aload_n hx hb dL_law_180 rfl (lv_at hl 0 rfl) ?_
  refine lv_iload_n hx hb dL_law_181 rfl (lv_at hl 3 rfl) ?_
  refine lv_iconst (v := (3 : Int32)) hx hb dL_law_182 (by decide) ?_
  refine lv_iadd hx hb dL_law_183 ?_
  refine va_sld hx hb hX hbl hbA hS (law_in (k := 3) (by omega) hL ex) dL_law_184 ?_
  have h : wX9_face (fun r q o d tq zs => wX10_face (fun r2 m => r = r2 ∧ JJ q o d zs m) m1 (xs (Int32.toNatClampNeg (x3 + (1 : Int32)))) (xs (Int32.toNatClampNeg (x3 + (2 : Int32)))) (xs (Int32.toNatClampNeg (x3 + (3 : Int32))))) q o d tq zs (xs (Int32.toNatClampNeg (x3 + (1 : Int32)))) (xs (Int32.toNatClampNeg (x3 + (2 : Int32)))) (xs (Int32.toNatClampNeg (x3 + (3 : Int32)))) := j_face hJ
  refine qc_vi (As := [.int (xs (Int32.toNatClampNeg (x3 + (1 : Int32)))), .int (xs (Int32.toNatClampNeg (x3 + (2 : Int32)))), .int (xs (Int32.toNatClampNeg (x3 + (3 : Int32))))]) (rest := []) ⟨hx, hb, hml, hown, hts⟩ (mX9_face l G _ _ a bb g ae az q o d tq zs _ (xs (Int32.toNatClampNeg (x3 + (1 : Int32)))) (xs (Int32.toNatClampNeg (x3 + (2 : Int32)))) (xs (Int32.toNatClampNeg (x3 + (3 : Int32))))) (cwV 3 hts gL_law_X9_face rfl rfl rfl (by decide +kernel) ⟨Nat.le_of_ble_eq_true rfl, Nat.le_of_ble_eq_true rfl⟩) hP hD hS hA hKn 18 9 rfl rfl rfl h rfl hl.1 rfl (Nat.le_of_ble_eq_true rfl) dL_law_185 ⟨Nat.le_of_ble_eq_true rfl, Nat.le_of_ble_eq_true rfl⟩ (fun r u H locs h hP hD hS => ?_)
  obtain ⟨q, o, d, tq, zs⟩ := u
  have hP : va_P G.1 vwCl (wQ G a q ++ (wO G a bb ae g az o ++ (wD G g d ++ (wQ G ae tq ++ (wZ G az zs ++ (wM G am m1 ++ [])))))) H := hP
  have hD : va_D A (wQ G a q ++ (wO G a bb ae g az o ++ (wD G g d ++ (wQ G ae tq ++ (wZ G az zs ++ (wM G am m1 ++ [])))))) := hD
  have h : wX10_face (fun r2 m => r = r2 ∧ JJ q o d zs m) m1 (xs (Int32.toNatClampNeg (x3 + (1 : Int32)))) (xs (Int32.toNatClampNeg (x3 + (2 : Int32)))) (xs (Int32.toNatClampNeg (x3 + (3 : Int32)))) := h
  refine lv_aload_n hx hb dL_law_188 rfl (lv_at hl 2 rfl) ?_
  refine lv_aload_n hx hb dL_law_189 rfl (lv_at hl 0 rfl) ?_
  refine lv_iload_n hx hb dL_law_190 rfl (lv_at hl 3 rfl) ?_
  refine lv_iconst (v := (1 : Int32)) hx hb dL_law_191 (by decide) ?_
  refine lv_iadd hx hb dL_law_192 ?_
  refine va_sld hx hb hX hbl hbA hS (law_in (k := 1) (by omega) hL ex) dL_law_193 ?_
  refine lv_aload_n hx hb dL_law_194 rfl (lv_at hl 0 rfl) ?_
  refine lv_iload_n hx hb dL_law_195 rfl (lv_at hl 3 rfl) ?_
  refine lv_iconst (v := (2 : Int32)) hx hb dL_law_196 (by decide) ?_
  refine lv_iadd hx hb dL_law_197 ?_
  refine va_sld hx hb hX hbl hbA hS (law_in (k := 2) (by omega) hL ex) dL_law_198 ?_
  refine lv_aload_n hx hb dL_law_199 rfl (lv_at hl 0 rfl) ?_
  refine lv_iload_n hx hb dL_law_200 rfl (lv_at hl 3 rfl) ?_
  refine lv_iconst (v := (3 : Int32)) hx hb dL_law_201 (by decide) ?_
  refine lv_iadd hx hb dL_law_202 ?_
  refine va_sld hx hb hX hbl hbA hS (law_in (k := 3) (by omega) hL ex) dL_law_203 ?_
  obtain ⟨hP, hD⟩ := q_perm (((((((((List.perm_append_comm_assoc _ _ _).append_left _).trans (List.perm_append_comm_assoc _ _ _)).append_left _).trans (List.perm_append_comm_assoc _ _ _)).append_left _).trans (List.perm_append_comm_assoc _ _ _)).append_left _).trans (List.perm_append_comm_assoc _ _ _)) hP hD
  have hP : va_P G.1 vwCl (wM G am m1 ++ (wQ G a q ++ (wO G a bb ae g az o ++ (wD G g d ++ (wQ G ae tq ++ (wZ G az zs ++ [])))))) H := hP
  have hD : va_D A (wM G am m1 ++ (wQ G a q ++ (wO G a bb ae g az o ++ (wD G g d ++ (wQ G ae tq ++ (wZ G az zs ++ [])))))) := hD
  refine qc_vi (As := [.int (xs (Int32.toNatClampNeg (x3 + (1 : Int32)))), .int (xs (Int32.toNatClampNeg (x3 + (2 : Int32)))), .int (xs (Int32.toNatClampNeg (x3 + (3 : Int32))))]) (rest := [.int r]) ⟨hx, hb, hml, hown, hts⟩ (mX10_face l G _ _ am m1 _ (xs (Int32.toNatClampNeg (x3 + (1 : Int32)))) (xs (Int32.toNatClampNeg (x3 + (2 : Int32)))) (xs (Int32.toNatClampNeg (x3 + (3 : Int32))))) (cwV 3 hts gL_law_X10_face rfl rfl rfl (by decide +kernel) ⟨Nat.le_of_ble_eq_true rfl, Nat.le_of_ble_eq_true rfl⟩) hP hD hS hA hKn 0 10 rfl rfl rfl h rfl hl.1 rfl (Nat.le_of_ble_eq_true rfl) dL_law_204 ⟨Nat.le_of_ble_eq_true rfl, Nat.le_of_ble_eq_true rfl⟩ (fun r2 m1 H locs h hP hD hS => ?_)
  have hP : va_P G.1 vwCl (wM G am m1 ++ (wQ G a q ++ (wO G a bb ae g az o ++ (wD G g d ++ (wQ G ae tq ++ (wZ G az zs ++ [])))))) H := hP
  have hD : va_D A (wM G am m1 ++ (wQ G a q ++ (wO G a bb ae g az o ++ (wD G g d ++ (wQ G ae tq ++ (wZ G az zs ++ [])))))) := hD
  obtain ⟨hP, hD⟩ := q_perm ((((((((((List.perm_append_comm_assoc _ _ _).append_left _).trans (List.perm_append_comm_assoc _ _ _)).append_left _).trans (List.perm_append_comm_assoc _ _ _)).append_left _).trans (List.perm_append_comm_assoc _ _ _)).append_left _).trans (List.perm_append_comm_assoc _ _ _))).symm hP hD
  have hP : va_P G.1 vwCl (wQ G a q ++ (wO G a bb ae g az o ++ (wD G g d ++ (wQ G ae tq ++ (wZ G az zs ++ (wM G am m1 ++ [])))))) H := hP
  have hD : va_D A (wQ G a q ++ (wO G a bb ae g az o ++ (wD G g d ++ (wQ G ae tq ++ (wZ G az zs ++ (wM G am m1 ++ [])))))) := hD
  have h : r = r2 ∧ JJ q o d zs m1 := h
  exact lv_icmp_eq (tgt := 764) hx hb dL_law_207 (by decide) (fun c1 => hk q o d tq zs m1 H locs ls h.2 hP hD hS hl) (fun c1 => absurd h.1 c1)
set_option maxHeartbeats 4000000 in
set_option maxRecDepth 100000 in
theorem law_c2 {p : Program} {l : Launch} {e : Env} {s : State} {m : MethodId} {below : List Frame} {meth : Method} {c : Code} {sb L : Nat} {xs : Nat → Int32} {G : qG} {A : Nat → Prop} {a bb ae g am : Nat → Nat} {az : Nat → Nat → Nat} {Qf : State → Prop} (hx : p.tables.exec = Jvm.exec) (hb : c.code = code) (hml : c.maxLocals = 4) (hown : s.vm.findClass RL = some m.cls) (hts : ∀ w ∈ wsL_law, w.before #[Value.ref sb] s = true) (hX : va_X sb L xs s s.heap) (hbl : sb < s.heap.size) (hbA : ¬ A sb) (hA : ∀ q : Nat, s.heap.size ≤ q → A q) (hKn : qKn G A s s.heap) (hL : L ≤ 3584) {x3 : Int32} {i : Nat} (hi : i + 7 ≤ L) (ex : x3 = nI i) (hk : ∀ (q o d tq : qS) (zs : Nat → qS) (m1 : qS) (H : Heap) (locs : List Loc) (ls : Array Slot), JJ q o d zs m1 → va_P G.1 vwCl (wQ G a q ++ (wO G a bb ae g az o ++ (wD G g d ++ (wQ G ae tq ++ (wZ G az zs ++ (wM G am m1 ++ [])))))) H → va_D A (wQ G a q ++ (wO G a bb ae g az o ++ (wD G g d ++ (wQ G ae tq ++ (wZ G az zs ++ (wM G am m1 ++ [])))))) → va_S A s.heap H locs → lv_has ls 4 [(0, .ref sb), (1, .ref (bb 0)), (2, .ref (am 0)), (3, .int x3)] → W p l e room_1 s m #[Value.ref sb] below meth c H locs 600000 7302249 Qf (F0 m 764 ls [])) {q o d tq : qS} {zs : Nat → qS} {m1 : qS} {H : Heap} {locs : List Loc} {ls : Array Slot} (hJ : JJ q o d zs m1) (hP : va_P G.1 vwCl (wQ G a q ++ (wO G a bb ae g az o ++ (wD G g d ++ (wQ G ae tq ++ (wZ G az zs ++ (wM G am m1 ++ [])))))) H) (hD : va_D A (wQ G a q ++ (wO G a bb ae g az o ++ (wD G g d ++ (wQ G ae tq ++ (wZ G az zs ++ (wM G am m1 ++ []))))))) (hS : va_S A s.heap H locs) (hl : lv_has ls 4 [(0, .ref sb), (1, .ref (bb 0)), (2, .ref (am 0)), (3, .int x3)]) : W p l e room_1 s m #[Value.ref sb] below meth c H locs 600000 7302249 Qf (F0 m 212 ls []) := by
  refine lv_aload_n hx hb dL_law_212 rfl (lv_at hl 1 rfl) ?_
  refine lv_aload_n hx hb dL_law_213 rfl (lv_at hl 0 rfl) ?_
  refine lv_iload_n hx hb dL_law_214 rfl (lv_at hl 3 rfl) ?_
  refine lv_iconst (v := (1 : Int32)) hx hb dL_law_215 (by decide) ?_
  refine lv_iadd hx hb dL_law_216 ?_
  refine va_sld hx hb hX hbl hbA hS (law_in (k := 1) (by omega) hL ex) dL_law_217 ?_
  refine lv_aload_n hx hb dL_law_218 rfl (lv_at hl 0 rfl) ?_
  refine lv_iload_n hx hb dL_law_219 rfl (lv_at hl 3 rfl) ?_
  refine lv_iconst (v := (2 : Int32)) hx hb dL_law_220 (by decide) ?_
  refine lv_iadd hx hb dL_law_221 ?_
  refine va_sld hx hb hX hbl hbA hS (law_in (k := 2) (by omega) hL ex) dL_law_222 ?_
  refine lv_aload_n hx hb dL_law_223 rfl (lv_at hl 0 rfl) ?_
  refine lv_iload_n hx hb dL_law_224 rfl (lv_at hl 3 rfl) ?_
  refine lv_iconst (v := (3 : Int32)) hx hb dL_law_225 (by decide) ?_
  refine lv_iadd hx hb dL_law_226 ?_
  refine va_sld hx hb hX hbl hbA hS (law_in (k := 3) (by omega) hL ex) dL_law_227 ?_
  refine lv_aload_n hx hb dL_law_228 rfl (lv_at hl 0 rfl) ?_
  refine lv_iload_n hx hb dL_law_229 rfl (lv_at hl 3 rfl) ?_
  refine lv_iconst (v := (4 : Int32)) hx hb dL_law_230 (by decide) ?_
  refine lv_iadd hx hb dL_law_231 ?_
  refine va_sld hx hb hX hbl hbA hS (law_in (k := 4) (by omega) hL ex) dL_law_232 ?_
  refine lv_aload_n hx hb dL_law_233 rfl (lv_at hl 0 rfl) ?_
  refine lv_iload_n hx hb dL_law_234 rfl (lv_at hl 3 rfl) ?_
  refine lv_iconst (v := (5 : Int32)) hx hb dL_law_235 (by decide) ?_
  refine lv_iadd hx hb dL_law_236 ?_
  refine va_sld hx hb hX hbl hbA hS (law_in (k := 5) (by omega) hL ex) dL_law_237 ?_
  refine lv_aload_n hx hb dL_law_238 rfl (lv_at hl 0 rfl) ?_
  refine lv_iload_n hx hb dL_law_239 rfl (lv_at hl 3 rfl) ?_
  refine lv_bipush (v := (6 : Int32)) hx hb dL_law_240 (by decide) ?_
  refine lv_iadd hx hb dL_law_242 ?_
  refine va_sld hx hb hX hbl hbA hS (law_in (k := 6) (by omega) hL ex) dL_law_243 ?_
  have h : wX9_contract (fun r q o d tq zs => wX10_contract (fun r2 m => r = r2 ∧ JJ q o d zs m) m1 (xs (Int32.toNatClampNeg (x3 + (1 : Int32)))) (xs (Int32.toNatClampNeg (x3 + (2 : Int32)))) (xs (Int32.toNatClampNeg (x3 + (3 : Int32)))) (xs (Int32.toNatClampNeg (x3 + (4 : Int32)))) (xs (Int32.toNatClampNeg (x3 + (5 : Int32)))) (xs (Int32.toNatClampNeg (x3 + (6 : Int32))))) q o d tq zs (xs (Int32.toNatClampNeg (x3 + (1 : Int32)))) (xs (Int32.toNatClampNeg (x3 + (2 : Int32)))) (xs (Int32.toNatClampNeg (x3 + (3 : Int32)))) (xs (Int32.toNatClampNeg (x3 + (4 : Int32)))) (xs (Int32.toNatClampNeg (x3 + (5 : Int32)))) (xs (Int32.toNatClampNeg (x3 + (6 : Int32)))) := j_contract hJ
  refine qc_vi (As := [.int (xs (Int32.toNatClampNeg (x3 + (1 : Int32)))), .int (xs (Int32.toNatClampNeg (x3 + (2 : Int32)))), .int (xs (Int32.toNatClampNeg (x3 + (3 : Int32)))), .int (xs (Int32.toNatClampNeg (x3 + (4 : Int32)))), .int (xs (Int32.toNatClampNeg (x3 + (5 : Int32)))), .int (xs (Int32.toNatClampNeg (x3 + (6 : Int32))))]) (rest := []) ⟨hx, hb, hml, hown, hts⟩ (mX9_contract l G _ _ a bb g ae az q o d tq zs _ (xs (Int32.toNatClampNeg (x3 + (1 : Int32)))) (xs (Int32.toNatClampNeg (x3 + (2 : Int32)))) (xs (Int32.toNatClampNeg (x3 + (3 : Int32)))) (xs (Int32.toNatClampNeg (x3 + (4 : Int32)))) (xs (Int32.toNatClampNeg (x3 + (5 : Int32)))) (xs (Int32.toNatClampNeg (x3 + (6 : Int32))))) (cwV 6 hts gL_law_X9_contract rfl rfl rfl (by decide +kernel) ⟨Nat.le_of_ble_eq_true rfl, Nat.le_of_ble_eq_true rfl⟩) hP hD hS hA hKn 18 9 rfl rfl rfl h rfl hl.1 rfl (Nat.le_of_ble_eq_true rfl) dL_law_244 ⟨Nat.le_of_ble_eq_true rfl, Nat.le_of_ble_eq_true rfl⟩ (fun r u H locs h hP hD hS => ?_)
  obtain ⟨q, o, d, tq, zs⟩ := u
  have hP : va_P G.1 vwCl (wQ G a q ++ (wO G a bb ae g az o ++ (wD G g d ++ (wQ G ae tq ++ (wZ G az zs ++ (wM G am m1 ++ [])))))) H := hP
  have hD : va_D A (wQ G a q ++ (wO G a bb ae g az o ++ (wD G g d ++ (wQ G ae tq ++ (wZ G az zs ++ (wM G am m1 ++ [])))))) := hD
  have h : wX10_contract (fun r2 m => r = r2 ∧ JJ q o d zs m) m1 (xs (Int32.toNatClampNeg (x3 + (1 : Int32)))) (xs (Int32.toNatClampNeg (x3 + (2 : Int32)))) (xs (Int32.toNatClampNeg (x3 + (3 : Int32)))) (xs (Int32.toNatClampNeg (x3 + (4 : Int32)))) (xs (Int32.toNatClampNeg (x3 + (5 : Int32)))) (xs (Int32.toNatClampNeg (x3 + (6 : Int32)))) := h
  refine lv_aload_n hx hb dL_law_247 rfl (lv_at hl 2 rfl) ?_
  refine lv_aload_n hx hb dL_law_248 rfl (lv_at hl 0 rfl) ?_
  refine lv_iload_n hx hb dL_law_249 rfl (lv_at hl 3 rfl) ?_
  refine lv_iconst (v := (1 : Int32)) hx hb dL_law_250 (by decide) ?_
  refine lv_iadd hx hb dL_law_251 ?_
  refine va_sld hx hb hX hbl hbA hS (law_in (k := 1) (by omega) hL ex) dL_law_252 ?_
  refine lv_aload_n hx hb dL_law_253 rfl (lv_at hl 0 rfl) ?_
  refine lv_iload_n hx hb dL_law_254 rfl (lv_at hl 3 rfl) ?_
  refine lv_iconst (v := (2 : Int32)) hx hb dL_law_255 (by decide) ?_
  refine lv_iadd hx hb dL_law_256 ?_
  refine va_sld hx hb hX hbl hbA hS (law_in (k := 2) (by omega) hL ex) dL_law_257 ?_
  refine lv_aload_n hx hb dL_law_258 rfl (lv_at hl 0 rfl) ?_
  refine lv_iload_n hx hb dL_law_259 rfl (lv_at hl 3 rfl) ?_
  refine lv_iconst (v := (3 : Int32)) hx hb dL_law_260 (by decide) ?_
  refine lv_iadd hx hb dL_law_261 ?_
  refine va_sld hx hb hX hbl hbA hS (law_in (k := 3) (by omega) hL ex) dL_law_262 ?_
  refine lv_aload_n hx hb dL_law_263 rfl (lv_at hl 0 rfl) ?_
  refine lv_iload_n hx hb dL_law_264 rfl (lv_at hl 3 rfl) ?_
  refine lv_iconst (v := (4 : Int32)) hx hb dL_law_265 (by decide) ?_
  refine lv_iadd hx hb dL_law_266 ?_
  refine va_sld hx hb hX hbl hbA hS (law_in (k := 4) (by omega) hL ex) dL_law_267 ?_
  refine lv_aload_n hx hb dL_law_268 rfl (lv_at hl 0 rfl) ?_
  refine lv_iload_n hx hb dL_law_269 rfl (lv_at hl 3 rfl) ?_
  refine lv_iconst (v := (5 : Int32)) hx hb dL_law_270 (by decide) ?_
  refine lv_iadd hx hb dL_law_271 ?_
  refine va_sld hx hb hX hbl hbA hS (law_in (k := 5) (by omega) hL ex) dL_law_272 ?_
  refine lv_aload_n hx hb dL_law_273 rfl (lv_at hl 0 rfl) ?_
  refine lv_iload_n hx hb dL_law_274 rfl (lv_at hl 3 rfl) ?_
  refine lv_bipush (v := (6 : Int32)) hx hb dL_law_275 (by decide) ?_
  refine lv_iadd hx hb dL_law_277 ?_
  refine va_sld hx hb hX hbl hbA hS (law_in (k := 6) (by omega) hL ex) dL_law_278 ?_
  obtain ⟨hP, hD⟩ := q_perm (((((((((List.perm_append_comm_assoc _ _ _).append_left _).trans (List.perm_append_comm_assoc _ _ _)).append_left _).trans (List.perm_append_comm_assoc _ _ _)).append_left _).trans (List.perm_append_comm_assoc _ _ _)).append_left _).trans (List.perm_append_comm_assoc _ _ _)) hP hD
  have hP : va_P G.1 vwCl (wM G am m1 ++ (wQ G a q ++ (wO G a bb ae g az o ++ (wD G g d ++ (wQ G ae tq ++ (wZ G az zs ++ [])))))) H := hP
  have hD : va_D A (wM G am m1 ++ (wQ G a q ++ (wO G a bb ae g az o ++ (wD G g d ++ (wQ G ae tq ++ (wZ G az zs ++ [])))))) := hD
  refine qc_vi (As := [.int (xs (Int32.toNatClampNeg (x3 + (1 : Int32)))), .int (xs (Int32.toNatClampNeg (x3 + (2 : Int32)))), .int (xs (Int32.toNatClampNeg (x3 + (3 : Int32)))), .int (xs (Int32.toNatClampNeg (x3 + (4 : Int32)))), .int (xs (Int32.toNatClampNeg (x3 + (5 : Int32)))), .int (xs (Int32.toNatClampNeg (x3 + (6 : Int32))))]) (rest := [.int r]) ⟨hx, hb, hml, hown, hts⟩ (mX10_contract l G _ _ am m1 _ (xs (Int32.toNatClampNeg (x3 + (1 : Int32)))) (xs (Int32.toNatClampNeg (x3 + (2 : Int32)))) (xs (Int32.toNatClampNeg (x3 + (3 : Int32)))) (xs (Int32.toNatClampNeg (x3 + (4 : Int32)))) (xs (Int32.toNatClampNeg (x3 + (5 : Int32)))) (xs (Int32.toNatClampNeg (x3 + (6 : Int32))))) (cwV 6 hts gL_law_X10_contract rfl rfl rfl (by decide +kernel) ⟨Nat.le_of_ble_eq_true rfl, Nat.le_of_ble_eq_true rfl⟩) hP hD hS hA hKn 0 10 rfl rfl rfl h rfl hl.1 rfl (Nat.le_of_ble_eq_true rfl) dL_law_279 ⟨Nat.le_of_ble_eq_true rfl, Nat.le_of_ble_eq_true rfl⟩ (fun r2 m1 H locs h hP hD hS => ?_)
  have hP : va_P G.1 vwCl (wM G am m1 ++ (wQ G a q ++ (wO G a bb ae g az o ++ (wD G g d ++ (wQ G ae tq ++ (wZ G az zs ++ [])))))) H := hP
  have hD : va_D A (wM G am m1 ++ (wQ G a q ++ (wO G a bb ae g az o ++ (wD G g d ++ (wQ G ae tq ++ (wZ G az zs ++ [])))))) := hD
  obtain ⟨hP, hD⟩ := q_perm ((((((((((List.perm_append_comm_assoc _ _ _).append_left _).trans (List.perm_append_comm_assoc _ _ _)).append_left _).trans (List.perm_append_comm_assoc _ _ _)).append_left _).trans (List.perm_append_comm_assoc _ _ _)).append_left _).trans (List.perm_append_comm_assoc _ _ _))).symm hP hD
  have hP : va_P G.1 vwCl (wQ G a q ++ (wO G a bb ae g az o ++ (wD G g d ++ (wQ G ae tq ++ (wZ G az zs ++ (wM G am m1 ++ [])))))) H := hP
  have hD : va_D A (wQ G a q ++ (wO G a bb ae g az o ++ (wD G g d ++ (wQ G ae tq ++ (wZ G az zs ++ (wM G am m1 ++ [])))))) := hD
  have h : r = r2 ∧ JJ q o d zs m1 := h
  exact lv_icmp_eq (tgt := 764) hx hb dL_law_282 (by decide) (fun c1 => hk q o d tq zs m1 H locs ls h.2 hP hD hS hl) (fun c1 => absurd h.1 c1)
set_option maxHeartbeats 4000000 in
set_option maxRecDepth 100000 in
theorem law_c3 {p : Program} {l : Launch} {e : Env} {s : State} {m : MethodId} {below : List Frame} {meth : Method} {c : Code} {sb L : Nat} {xs : Nat → Int32} {G : qG} {A : Nat → Prop} {a bb ae g am : Nat → Nat} {az : Nat → Nat → Nat} {Qf : State → Prop} (hx : p.tables.exec = Jvm.exec) (hb : c.code = code) (hml : c.maxLocals = 4) (hown : s.vm.findClass RL = some m.cls) (hts : ∀ w ∈ wsL_law, w.before #[Value.ref sb] s = true) (hX : va_X sb L xs s s.heap) (hbl : sb < s.heap.size) (hbA : ¬ A sb) (hA : ∀ q : Nat, s.heap.size ≤ q → A q) (hKn : qKn G A s s.heap) (hL : L ≤ 3584) {x3 : Int32} {i : Nat} (hi : i + 7 ≤ L) (ex : x3 = nI i) (hk : ∀ (q o d tq : qS) (zs : Nat → qS) (m1 : qS) (H : Heap) (locs : List Loc) (ls : Array Slot), JJ q o d zs m1 → va_P G.1 vwCl (wQ G a q ++ (wO G a bb ae g az o ++ (wD G g d ++ (wQ G ae tq ++ (wZ G az zs ++ (wM G am m1 ++ [])))))) H → va_D A (wQ G a q ++ (wO G a bb ae g az o ++ (wD G g d ++ (wQ G ae tq ++ (wZ G az zs ++ (wM G am m1 ++ [])))))) → va_S A s.heap H locs → lv_has ls 4 [(0, .ref sb), (1, .ref (bb 0)), (2, .ref (am 0)), (3, .int x3)] → W p l e room_1 s m #[Value.ref sb] below meth c H locs 600000 7302249 Qf (F0 m 764 ls [])) {q o d tq : qS} {zs : Nat → qS} {m1 : qS} {H : Heap} {locs : List Loc} {ls : Array Slot} (hJ : JJ q o d zs m1) (hP : va_P G.1 vwCl (wQ G a q ++ (wO G a bb ae g az o ++ (wD G g d ++ (wQ G ae tq ++ (wZ G az zs ++ (wM G am m1 ++ [])))))) H) (hD : va_D A (wQ G a q ++ (wO G a bb ae g az o ++ (wD G g d ++ (wQ G ae tq ++ (wZ G az zs ++ (wM G am m1 ++ []))))))) (hS : va_S A s.heap H locs) (hl : lv_has ls 4 [(0, .ref sb), (1, .ref (bb 0)), (2, .ref (am 0)), (3, .int x3)]) : W p l e room_1 s m #[Value.ref sb] below meth c H locs 600000 7302249 Qf (F0 m 287 ls []) := by
  refine lv_aload_n hx hb dL_law_287 rfl (lv_at hl 1 rfl) ?_
  refine lv_aload_n hx hb dL_law_288 rfl (lv_at hl 0 rfl) ?_
  refine lv_iload_n hx hb dL_law_289 rfl (lv_at hl 3 rfl) ?_
  refine lv_iconst (v := (1 : Int32)) hx hb dL_law_290 (by decide) ?_
  refine lv_iadd hx hb dL_law_291 ?_
  refine va_sld hx hb hX hbl hbA hS (law_in (k := 1) (by omega) hL ex) dL_law_292 ?_
  have h : wX9_drop (fun r q o d tq zs => wX10_drop (fun r2 m => r = r2 ∧ JJ q o d zs m) m1 (xs (Int32.toNatClampNeg (x3 + (1 : Int32))))) q o d tq zs (xs (Int32.toNatClampNeg (x3 + (1 : Int32)))) := j_drop hJ
  refine qc_vi (As := [.int (xs (Int32.toNatClampNeg (x3 + (1 : Int32))))]) (rest := []) ⟨hx, hb, hml, hown, hts⟩ (mX9_drop l G _ _ a bb g ae az q o d tq zs _ (xs (Int32.toNatClampNeg (x3 + (1 : Int32))))) (cwV 1 hts gL_law_X9_drop rfl rfl rfl (by decide +kernel) ⟨Nat.le_of_ble_eq_true rfl, Nat.le_of_ble_eq_true rfl⟩) hP hD hS hA hKn 18 9 rfl rfl rfl h rfl hl.1 rfl (Nat.le_of_ble_eq_true rfl) dL_law_293 ⟨Nat.le_of_ble_eq_true rfl, Nat.le_of_ble_eq_true rfl⟩ (fun r u H locs h hP hD hS => ?_)
  obtain ⟨q, o, d, tq, zs⟩ := u
  have hP : va_P G.1 vwCl (wQ G a q ++ (wO G a bb ae g az o ++ (wD G g d ++ (wQ G ae tq ++ (wZ G az zs ++ (wM G am m1 ++ [])))))) H := hP
  have hD : va_D A (wQ G a q ++ (wO G a bb ae g az o ++ (wD G g d ++ (wQ G ae tq ++ (wZ G az zs ++ (wM G am m1 ++ [])))))) := hD
  have h : wX10_drop (fun r2 m => r = r2 ∧ JJ q o d zs m) m1 (xs (Int32.toNatClampNeg (x3 + (1 : Int32)))) := h
  refine lv_aload_n hx hb dL_law_296 rfl (lv_at hl 2 rfl) ?_
  refine lv_aload_n hx hb dL_law_297 rfl (lv_at hl 0 rfl) ?_
  refine lv_iload_n hx hb dL_law_298 rfl (lv_at hl 3 rfl) ?_
  refine lv_iconst (v := (1 : Int32)) hx hb dL_law_299 (by decide) ?_
  refine lv_iadd hx hb dL_law_300 ?_
  refine va_sld hx hb hX hbl hbA hS (law_in (k := 1) (by omega) hL ex) dL_law_301 ?_
  obtain ⟨hP, hD⟩ := q_perm (((((((((List.perm_append_comm_assoc _ _ _).append_left _).trans (List.perm_append_comm_assoc _ _ _)).append_left _).trans (List.perm_append_comm_assoc _ _ _)).append_left _).trans (List.perm_append_comm_assoc _ _ _)).append_left _).trans (List.perm_append_comm_assoc _ _ _)) hP hD
  have hP : va_P G.1 vwCl (wM G am m1 ++ (wQ G a q ++ (wO G a bb ae g az o ++ (wD G g d ++ (wQ G ae tq ++ (wZ G az zs ++ [])))))) H := hP
  have hD : va_D A (wM G am m1 ++ (wQ G a q ++ (wO G a bb ae g az o ++ (wD G g d ++ (wQ G ae tq ++ (wZ G az zs ++ [])))))) := hD
  refine qc_vi (As := [.int (xs (Int32.toNatClampNeg (x3 + (1 : Int32))))]) (rest := [.int r]) ⟨hx, hb, hml, hown, hts⟩ (mX10_drop l G _ _ am m1 _ (xs (Int32.toNatClampNeg (x3 + (1 : Int32))))) (cwV 1 hts gL_law_X10_drop rfl rfl rfl (by decide +kernel) ⟨Nat.le_of_ble_eq_true rfl, Nat.le_of_ble_eq_true rfl⟩) hP hD hS hA hKn 0 10 rfl rfl rfl h rfl hl.1 rfl (Nat.le_of_ble_eq_true rfl) dL_law_302 ⟨Nat.le_of_ble_eq_true rfl, Nat.le_of_ble_eq_true rfl⟩ (fun r2 m1 H locs h hP hD hS => ?_)
  have hP : va_P G.1 vwCl (wM G am m1 ++ (wQ G a q ++ (wO G a bb ae g az o ++ (wD G g d ++ (wQ G ae tq ++ (wZ G az zs ++ [])))))) H := hP
  have hD : va_D A (wM G am m1 ++ (wQ G a q ++ (wO G a bb ae g az o ++ (wD G g d ++ (wQ G ae tq ++ (wZ G az zs ++ [])))))) := hD
  obtain ⟨hP, hD⟩ := q_perm ((((((((((List.perm_append_comm_assoc _ _ _).append_left _).trans (List.perm_append_comm_assoc _ _ _)).append_left _).trans (List.perm_append_comm_assoc _ _ _)).append_left _).trans (List.perm_append_comm_assoc _ _ _)).append_left _).trans (List.perm_append_comm_assoc _ _ _))).symm hP hD
  have hP : va_P G.1 vwCl (wQ G a q ++ (wO G a bb ae g az o ++ (wD G g d ++ (wQ G ae tq ++ (wZ G az zs ++ (wM G am m1 ++ [])))))) H := hP
  have hD : va_D A (wQ G a q ++ (wO G a bb ae g az o ++ (wD G g d ++ (wQ G ae tq ++ (wZ G az zs ++ (wM G am m1 ++ [])))))) := hD
  have h : r = r2 ∧ JJ q o d zs m1 := h
  exact lv_icmp_eq (tgt := 764) hx hb dL_law_305 (by decide) (fun c1 => hk q o d tq zs m1 H locs ls h.2 hP hD hS hl) (fun c1 => absurd h.1 c1)
set_option maxHeartbeats 4000000 in
set_option maxRecDepth 100000 in
theorem law_c4 {p : Program} {l : Launch} {e : Env} {s : State} {m : MethodId} {below : List Frame} {meth : Method} {c : Code} {sb L : Nat} {xs : Nat → Int32} {G : qG} {A : Nat → Prop} {a bb ae g am : Nat → Nat} {az : Nat → Nat → Nat} {Qf : State → Prop} (hx : p.tables.exec = Jvm.exec) (hb : c.code = code) (hml : c.maxLocals = 4) (hown : s.vm.findClass RL = some m.cls) (hts : ∀ w ∈ wsL_law, w.before #[Value.ref sb] s = true) (hX : va_X sb L xs s s.heap) (hbl : sb < s.heap.size) (hbA : ¬ A sb) (hA : ∀ q : Nat, s.heap.size ≤ q → A q) (hKn : qKn G A s s.heap) (hL : L ≤ 3584) {x3 : Int32} {i : Nat} (hi : i + 7 ≤ L) (ex : x3 = nI i) (hk : ∀ (q o d tq : qS) (zs : Nat → qS) (m1 : qS) (H : Heap) (locs : List Loc) (ls : Array Slot), JJ q o d zs m1 → va_P G.1 vwCl (wQ G a q ++ (wO G a bb ae g az o ++ (wD G g d ++ (wQ G ae tq ++ (wZ G az zs ++ (wM G am m1 ++ [])))))) H → va_D A (wQ G a q ++ (wO G a bb ae g az o ++ (wD G g d ++ (wQ G ae tq ++ (wZ G az zs ++ (wM G am m1 ++ [])))))) → va_S A s.heap H locs → lv_has ls 4 [(0, .ref sb), (1, .ref (bb 0)), (2, .ref (am 0)), (3, .int x3)] → W p l e room_1 s m #[Value.ref sb] below meth c H locs 600000 7302249 Qf (F0 m 764 ls [])) {q o d tq : qS} {zs : Nat → qS} {m1 : qS} {H : Heap} {locs : List Loc} {ls : Array Slot} (hJ : JJ q o d zs m1) (hP : va_P G.1 vwCl (wQ G a q ++ (wO G a bb ae g az o ++ (wD G g d ++ (wQ G ae tq ++ (wZ G az zs ++ (wM G am m1 ++ [])))))) H) (hD : va_D A (wQ G a q ++ (wO G a bb ae g az o ++ (wD G g d ++ (wQ G ae tq ++ (wZ G az zs ++ (wM G am m1 ++ []))))))) (hS : va_S A s.heap H locs) (hl : lv_has ls 4 [(0, .ref sb), (1, .ref (bb 0)), (2, .ref (am 0)), (3, .int x3)]) : W p l e room_1 s m #[Value.ref sb] below meth c H locs 600000 7302249 Qf (F0 m 310 ls []) := by
  refine lv_aload_n hx hb dL_law_310 rfl (lv_at hl 1 rfl) ?_
  have h : wX9_mend (fun r q o d tq zs => wX10_mend (fun r2 m => r = r2 ∧ JJ q o d zs m) m1 ) q o d tq zs  := j_mend hJ
  refine qc_vi (As := []) (rest := []) ⟨hx, hb, hml, hown, hts⟩ (mX9_mend l G _ _ a bb g ae az q o d tq zs _ ) (cwV 0 hts gL_law_X9_mend rfl rfl rfl (by decide +kernel) ⟨Nat.le_of_ble_eq_true rfl, Nat.le_of_ble_eq_true rfl⟩) hP hD hS hA hKn 18 9 rfl rfl rfl h rfl hl.1 rfl (Nat.le_of_ble_eq_true rfl) dL_law_311 ⟨Nat.le_of_ble_eq_true rfl, Nat.le_of_ble_eq_true rfl⟩ (fun r u H locs h hP hD hS => ?_)
  obtain ⟨q, o, d, tq, zs⟩ := u
  have hP : va_P G.1 vwCl (wQ G a q ++ (wO G a bb ae g az o ++ (wD G g d ++ (wQ G ae tq ++ (wZ G az zs ++ (wM G am m1 ++ [])))))) H := hP
  have hD : va_D A (wQ G a q ++ (wO G a bb ae g az o ++ (wD G g d ++ (wQ G ae tq ++ (wZ G az zs ++ (wM G am m1 ++ [])))))) := hD
  have h : wX10_mend (fun r2 m => r = r2 ∧ JJ q o d zs m) m1  := h
  refine lv_aload_n hx hb dL_law_314 rfl (lv_at hl 2 rfl) ?_
  obtain ⟨hP, hD⟩ := q_perm (((((((((List.perm_append_comm_assoc _ _ _).append_left _).trans (List.perm_append_comm_assoc _ _ _)).append_left _).trans (List.perm_append_comm_assoc _ _ _)).append_left _).trans (List.perm_append_comm_assoc _ _ _)).append_left _).trans (List.perm_append_comm_assoc _ _ _)) hP hD
  have hP : va_P G.1 vwCl (wM G am m1 ++ (wQ G a q ++ (wO G a bb ae g az o ++ (wD G g d ++ (wQ G ae tq ++ (wZ G az zs ++ [])))))) H := hP
  have hD : va_D A (wM G am m1 ++ (wQ G a q ++ (wO G a bb ae g az o ++ (wD G g d ++ (wQ G ae tq ++ (wZ G az zs ++ [])))))) := hD
  refine qc_vi (As := []) (rest := [.int r]) ⟨hx, hb, hml, hown, hts⟩ (mX10_mend l G _ _ am m1 _ ) (cwV 0 hts gL_law_X10_mend rfl rfl rfl (by decide +kernel) ⟨Nat.le_of_ble_eq_true rfl, Nat.le_of_ble_eq_true rfl⟩) hP hD hS hA hKn 0 10 rfl rfl rfl h rfl hl.1 rfl (Nat.le_of_ble_eq_true rfl) dL_law_315 ⟨Nat.le_of_ble_eq_true rfl, Nat.le_of_ble_eq_true rfl⟩ (fun r2 m1 H locs h hP hD hS => ?_)
  have hP : va_P G.1 vwCl (wM G am m1 ++ (wQ G a q ++ (wO G a bb ae g az o ++ (wD G g d ++ (wQ G ae tq ++ (wZ G az zs ++ [])))))) H := hP
  have hD : va_D A (wM G am m1 ++ (wQ G a q ++ (wO G a bb ae g az o ++ (wD G g d ++ (wQ G ae tq ++ (wZ G az zs ++ [])))))) := hD
  obtain ⟨hP, hD⟩ := q_perm ((((((((((List.perm_append_comm_assoc _ _ _).append_left _).trans (List.perm_append_comm_assoc _ _ _)).append_left _).trans (List.perm_append_comm_assoc _ _ _)).append_left _).trans (List.perm_append_comm_assoc _ _ _)).append_left _).trans (List.perm_append_comm_assoc _ _ _))).symm hP hD
  have hP : va_P G.1 vwCl (wQ G a q ++ (wO G a bb ae g az o ++ (wD G g d ++ (wQ G ae tq ++ (wZ G az zs ++ (wM G am m1 ++ [])))))) H := hP
  have hD : va_D A (wQ G a q ++ (wO G a bb ae g az o ++ (wD G g d ++ (wQ G ae tq ++ (wZ G az zs ++ (wM G am m1 ++ [])))))) := hD
  have h : r = r2 ∧ JJ q o d zs m1 := h
  exact lv_icmp_eq (tgt := 764) hx hb dL_law_318 (by decide) (fun c1 => hk q o d tq zs m1 H locs ls h.2 hP hD hS hl) (fun c1 => absurd h.1 c1)
set_option maxHeartbeats 4000000 in
set_option maxRecDepth 100000 in
theorem law_c5 {p : Program} {l : Launch} {e : Env} {s : State} {m : MethodId} {below : List Frame} {meth : Method} {c : Code} {sb L : Nat} {xs : Nat → Int32} {G : qG} {A : Nat → Prop} {a bb ae g am : Nat → Nat} {az : Nat → Nat → Nat} {Qf : State → Prop} (hx : p.tables.exec = Jvm.exec) (hb : c.code = code) (hml : c.maxLocals = 4) (hown : s.vm.findClass RL = some m.cls) (hts : ∀ w ∈ wsL_law, w.before #[Value.ref sb] s = true) (hX : va_X sb L xs s s.heap) (hbl : sb < s.heap.size) (hbA : ¬ A sb) (hA : ∀ q : Nat, s.heap.size ≤ q → A q) (hKn : qKn G A s s.heap) (hL : L ≤ 3584) {x3 : Int32} {i : Nat} (hi : i + 7 ≤ L) (ex : x3 = nI i) (hk : ∀ (q o d tq : qS) (zs : Nat → qS) (m1 : qS) (H : Heap) (locs : List Loc) (ls : Array Slot), JJ q o d zs m1 → va_P G.1 vwCl (wQ G a q ++ (wO G a bb ae g az o ++ (wD G g d ++ (wQ G ae tq ++ (wZ G az zs ++ (wM G am m1 ++ [])))))) H → va_D A (wQ G a q ++ (wO G a bb ae g az o ++ (wD G g d ++ (wQ G ae tq ++ (wZ G az zs ++ (wM G am m1 ++ [])))))) → va_S A s.heap H locs → lv_has ls 4 [(0, .ref sb), (1, .ref (bb 0)), (2, .ref (am 0)), (3, .int x3)] → W p l e room_1 s m #[Value.ref sb] below meth c H locs 600000 7302249 Qf (F0 m 764 ls [])) {q o d tq : qS} {zs : Nat → qS} {m1 : qS} {H : Heap} {locs : List Loc} {ls : Array Slot} (hJ : JJ q o d zs m1) (hP : va_P G.1 vwCl (wQ G a q ++ (wO G a bb ae g az o ++ (wD G g d ++ (wQ G ae tq ++ (wZ G az zs ++ (wM G am m1 ++ [])))))) H) (hD : va_D A (wQ G a q ++ (wO G a bb ae g az o ++ (wD G g d ++ (wQ G ae tq ++ (wZ G az zs ++ (wM G am m1 ++ []))))))) (hS : va_S A s.heap H locs) (hl : lv_has ls 4 [(0, .ref sb), (1, .ref (bb 0)), (2, .ref (am 0)), (3, .int x3)]) : W p l e room_1 s m #[Value.ref sb] below meth c H locs 600000 7302249 Qf (F0 m 323 ls []) := by
  refine lv_aload_n hx hb dL_law_323 rfl (lv_at hl 1 rfl) ?_
  refine lv_aload_n hx hb dL_law_324 rfl (lv_at hl 0 rfl) ?_
  refine lv_iload_n hx hb dL_law_325 rfl (lv_at hl 3 rfl) ?_
  refine lv_iconst (v := (1 : Int32)) hx hb dL_law_326 (by decide) ?_
  refine lv_iadd hx hb dL_law_327 ?_
  refine va_sld hx hb hX hbl hbA hS (law_in (k := 1) (by omega) hL ex) dL_law_328 ?_
  have h : wX9_pass (fun r q o d tq zs => wX10_pass (fun r2 m => r = r2 ∧ JJ q o d zs m) m1 (xs (Int32.toNatClampNeg (x3 + (1 : Int32))))) q o d tq zs (xs (Int32.toNatClampNeg (x3 + (1 : Int32)))) := j_pass hJ
  refine qc_vi (As := [.int (xs (Int32.toNatClampNeg (x3 + (1 : Int32))))]) (rest := []) ⟨hx, hb, hml, hown, hts⟩ (mX9_pass l G _ _ a bb g ae az q o d tq zs _ (xs (Int32.toNatClampNeg (x3 + (1 : Int32))))) (cwV 1 hts gL_law_X9_pass rfl rfl rfl (by decide +kernel) ⟨Nat.le_of_ble_eq_true rfl, Nat.le_of_ble_eq_true rfl⟩) hP hD hS hA hKn 18 9 rfl rfl rfl h rfl hl.1 rfl (Nat.le_of_ble_eq_true rfl) dL_law_329 ⟨Nat.le_of_ble_eq_true rfl, Nat.le_of_ble_eq_true rfl⟩ (fun r u H locs h hP hD hS => ?_)
  obtain ⟨q, o, d, tq, zs⟩ := u
  have hP : va_P G.1 vwCl (wQ G a q ++ (wO G a bb ae g az o ++ (wD G g d ++ (wQ G ae tq ++ (wZ G az zs ++ (wM G am m1 ++ [])))))) H := hP
  have hD : va_D A (wQ G a q ++ (wO G a bb ae g az o ++ (wD G g d ++ (wQ G ae tq ++ (wZ G az zs ++ (wM G am m1 ++ [])))))) := hD
  have h : wX10_pass (fun r2 m => r = r2 ∧ JJ q o d zs m) m1 (xs (Int32.toNatClampNeg (x3 + (1 : Int32)))) := h
  refine lv_aload_n hx hb dL_law_332 rfl (lv_at hl 2 rfl) ?_
  refine lv_aload_n hx hb dL_law_333 rfl (lv_at hl 0 rfl) ?_
  refine lv_iload_n hx hb dL_law_334 rfl (lv_at hl 3 rfl) ?_
  refine lv_iconst (v := (1 : Int32)) hx hb dL_law_335 (by decide) ?_
  refine lv_iadd hx hb dL_law_336 ?_
  refine va_sld hx hb hX hbl hbA hS (law_in (k := 1) (by omega) hL ex) dL_law_337 ?_
  obtain ⟨hP, hD⟩ := q_perm (((((((((List.perm_append_comm_assoc _ _ _).append_left _).trans (List.perm_append_comm_assoc _ _ _)).append_left _).trans (List.perm_append_comm_assoc _ _ _)).append_left _).trans (List.perm_append_comm_assoc _ _ _)).append_left _).trans (List.perm_append_comm_assoc _ _ _)) hP hD
  have hP : va_P G.1 vwCl (wM G am m1 ++ (wQ G a q ++ (wO G a bb ae g az o ++ (wD G g d ++ (wQ G ae tq ++ (wZ G az zs ++ [])))))) H := hP
  have hD : va_D A (wM G am m1 ++ (wQ G a q ++ (wO G a bb ae g az o ++ (wD G g d ++ (wQ G ae tq ++ (wZ G az zs ++ [])))))) := hD
  refine qc_vi (As := [.int (xs (Int32.toNatClampNeg (x3 + (1 : Int32))))]) (rest := [.int r]) ⟨hx, hb, hml, hown, hts⟩ (mX10_pass l G _ _ am m1 _ (xs (Int32.toNatClampNeg (x3 + (1 : Int32))))) (cwV 1 hts gL_law_X10_pass rfl rfl rfl (by decide +kernel) ⟨Nat.le_of_ble_eq_true rfl, Nat.le_of_ble_eq_true rfl⟩) hP hD hS hA hKn 0 10 rfl rfl rfl h rfl hl.1 rfl (Nat.le_of_ble_eq_true rfl) dL_law_338 ⟨Nat.le_of_ble_eq_true rfl, Nat.le_of_ble_eq_true rfl⟩ (fun r2 m1 H locs h hP hD hS => ?_)
  have hP : va_P G.1 vwCl (wM G am m1 ++ (wQ G a q ++ (wO G a bb ae g az o ++ (wD G g d ++ (wQ G ae tq ++ (wZ G az zs ++ [])))))) H := hP
  have hD : va_D A (wM G am m1 ++ (wQ G a q ++ (wO G a bb ae g az o ++ (wD G g d ++ (wQ G ae tq ++ (wZ G az zs ++ [])))))) := hD
  obtain ⟨hP, hD⟩ := q_perm ((((((((((List.perm_append_comm_assoc _ _ _).append_left _).trans (List.perm_append_comm_assoc _ _ _)).append_left _).trans (List.perm_append_comm_assoc _ _ _)).append_left _).trans (List.perm_append_comm_assoc _ _ _)).append_left _).trans (List.perm_append_comm_assoc _ _ _))).symm hP hD
  have hP : va_P G.1 vwCl (wQ G a q ++ (wO G a bb ae g az o ++ (wD G g d ++ (wQ G ae tq ++ (wZ G az zs ++ (wM G am m1 ++ [])))))) H := hP
  have hD : va_D A (wQ G a q ++ (wO G a bb ae g az o ++ (wD G g d ++ (wQ G ae tq ++ (wZ G az zs ++ (wM G am m1 ++ [])))))) := hD
  have h : r = r2 ∧ JJ q o d zs m1 := h
  exact lv_icmp_eq (tgt := 764) hx hb dL_law_341 (by decide) (fun c1 => hk q o d tq zs m1 H locs ls h.2 hP hD hS hl) (fun c1 => absurd h.1 c1)
set_option maxHeartbeats 4000000 in
set_option maxRecDepth 100000 in
theorem law_c6 {p : Program} {l : Launch} {e : Env} {s : State} {m : MethodId} {below : List Frame} {meth : Method} {c : Code} {sb L : Nat} {xs : Nat → Int32} {G : qG} {A : Nat → Prop} {a bb ae g am : Nat → Nat} {az : Nat → Nat → Nat} {Qf : State → Prop} (hx : p.tables.exec = Jvm.exec) (hb : c.code = code) (hml : c.maxLocals = 4) (hown : s.vm.findClass RL = some m.cls) (hts : ∀ w ∈ wsL_law, w.before #[Value.ref sb] s = true) (hX : va_X sb L xs s s.heap) (hbl : sb < s.heap.size) (hbA : ¬ A sb) (hA : ∀ q : Nat, s.heap.size ≤ q → A q) (hKn : qKn G A s s.heap) (hL : L ≤ 3584) {x3 : Int32} {i : Nat} (hi : i + 7 ≤ L) (ex : x3 = nI i) (hk : ∀ (q o d tq : qS) (zs : Nat → qS) (m1 : qS) (H : Heap) (locs : List Loc) (ls : Array Slot), JJ q o d zs m1 → va_P G.1 vwCl (wQ G a q ++ (wO G a bb ae g az o ++ (wD G g d ++ (wQ G ae tq ++ (wZ G az zs ++ (wM G am m1 ++ [])))))) H → va_D A (wQ G a q ++ (wO G a bb ae g az o ++ (wD G g d ++ (wQ G ae tq ++ (wZ G az zs ++ (wM G am m1 ++ [])))))) → va_S A s.heap H locs → lv_has ls 4 [(0, .ref sb), (1, .ref (bb 0)), (2, .ref (am 0)), (3, .int x3)] → W p l e room_1 s m #[Value.ref sb] below meth c H locs 600000 7302249 Qf (F0 m 764 ls [])) {q o d tq : qS} {zs : Nat → qS} {m1 : qS} {H : Heap} {locs : List Loc} {ls : Array Slot} (hJ : JJ q o d zs m1) (hP : va_P G.1 vwCl (wQ G a q ++ (wO G a bb ae g az o ++ (wD G g d ++ (wQ G ae tq ++ (wZ G az zs ++ (wM G am m1 ++ [])))))) H) (hD : va_D A (wQ G a q ++ (wO G a bb ae g az o ++ (wD G g d ++ (wQ G ae tq ++ (wZ G az zs ++ (wM G am m1 ++ []))))))) (hS : va_S A s.heap H locs) (hl : lv_has ls 4 [(0, .ref sb), (1, .ref (bb 0)), (2, .ref (am 0)), (3, .int x3)]) : W p l e room_1 s m #[Value.ref sb] below meth c H locs 600000 7302249 Qf (F0 m 346 ls []) := by
  refine lv_aload_n hx hb dL_law_346 rfl (lv_at hl 1 rfl) ?_
  refine lv_aload_n hx hb dL_law_347 rfl (lv_at hl 0 rfl) ?_
  refine lv_iload_n hx hb dL_law_348 rfl (lv_at hl 3 rfl) ?_
  refine lv_iconst (v := (1 : Int32)) hx hb dL_law_349 (by decide) ?_
  refine lv_iadd hx hb dL_law_350 ?_
  refine va_sld hx hb hX hbl hbA hS (law_in (k := 1) (by omega) hL ex) dL_law_351 ?_
  refine lv_aload_n hx hb dL_law_352 rfl (lv_at hl 0 rfl) ?_
  refine lv_iload_n hx hb dL_law_353 rfl (lv_at hl 3 rfl) ?_
  refine lv_iconst (v := (2 : Int32)) hx hb dL_law_354 (by decide) ?_
  refine lv_iadd hx hb dL_law_355 ?_
  refine va_sld hx hb hX hbl hbA hS (law_in (k := 2) (by omega) hL ex) dL_law_356 ?_
  have h : wX9_ofFace (fun r q o d tq zs => wX10_ofFace (fun r2 m => r = r2 ∧ JJ q o d zs m) m1 (xs (Int32.toNatClampNeg (x3 + (1 : Int32)))) (xs (Int32.toNatClampNeg (x3 + (2 : Int32))))) q o d tq zs (xs (Int32.toNatClampNeg (x3 + (1 : Int32)))) (xs (Int32.toNatClampNeg (x3 + (2 : Int32)))) := j_ofFace hJ
  refine qc_vi (As := [.int (xs (Int32.toNatClampNeg (x3 + (1 : Int32)))), .int (xs (Int32.toNatClampNeg (x3 + (2 : Int32))))]) (rest := []) ⟨hx, hb, hml, hown, hts⟩ (mX9_ofFace l G _ _ a bb g ae az q o d tq zs _ (xs (Int32.toNatClampNeg (x3 + (1 : Int32)))) (xs (Int32.toNatClampNeg (x3 + (2 : Int32))))) (cwV 2 hts gL_law_X9_ofFace rfl rfl rfl (by decide +kernel) ⟨Nat.le_of_ble_eq_true rfl, Nat.le_of_ble_eq_true rfl⟩) hP hD hS hA hKn 18 9 rfl rfl rfl h rfl hl.1 rfl (Nat.le_of_ble_eq_true rfl) dL_law_357 ⟨Nat.le_of_ble_eq_true rfl, Nat.le_of_ble_eq_true rfl⟩ (fun r u H locs h hP hD hS => ?_)
  obtain ⟨q, o, d, tq, zs⟩ := u
  have hP : va_P G.1 vwCl (wQ G a q ++ (wO G a bb ae g az o ++ (wD G g d ++ (wQ G ae tq ++ (wZ G az zs ++ (wM G am m1 ++ [])))))) H := hP
  have hD : va_D A (wQ G a q ++ (wO G a bb ae g az o ++ (wD G g d ++ (wQ G ae tq ++ (wZ G az zs ++ (wM G am m1 ++ [])))))) := hD
  have h : wX10_ofFace (fun r2 m => r = r2 ∧ JJ q o d zs m) m1 (xs (Int32.toNatClampNeg (x3 + (1 : Int32)))) (xs (Int32.toNatClampNeg (x3 + (2 : Int32)))) := h
  refine lv_aload_n hx hb dL_law_360 rfl (lv_at hl 2 rfl) ?_
  refine lv_aload_n hx hb dL_law_361 rfl (lv_at hl 0 rfl) ?_
  refine lv_iload_n hx hb dL_law_362 rfl (lv_at hl 3 rfl) ?_
  refine lv_iconst (v := (1 : Int32)) hx hb dL_law_363 (by decide) ?_
  refine lv_iadd hx hb dL_law_364 ?_
  refine va_sld hx hb hX hbl hbA hS (law_in (k := 1) (by omega) hL ex) dL_law_365 ?_
  refine lv_aload_n hx hb dL_law_366 rfl (lv_at hl 0 rfl) ?_
  refine lv_iload_n hx hb dL_law_367 rfl (lv_at hl 3 rfl) ?_
  refine lv_iconst (v := (2 : Int32)) hx hb dL_law_368 (by decide) ?_
  refine lv_iadd hx hb dL_law_369 ?_
  refine va_sld hx hb hX hbl hbA hS (law_in (k := 2) (by omega) hL ex) dL_law_370 ?_
  obtain ⟨hP, hD⟩ := q_perm (((((((((List.perm_append_comm_assoc _ _ _).append_left _).trans (List.perm_append_comm_assoc _ _ _)).append_left _).trans (List.perm_append_comm_assoc _ _ _)).append_left _).trans (List.perm_append_comm_assoc _ _ _)).append_left _).trans (List.perm_append_comm_assoc _ _ _)) hP hD
  have hP : va_P G.1 vwCl (wM G am m1 ++ (wQ G a q ++ (wO G a bb ae g az o ++ (wD G g d ++ (wQ G ae tq ++ (wZ G az zs ++ [])))))) H := hP
  have hD : va_D A (wM G am m1 ++ (wQ G a q ++ (wO G a bb ae g az o ++ (wD G g d ++ (wQ G ae tq ++ (wZ G az zs ++ [])))))) := hD
  refine qc_vi (As := [.int (xs (Int32.toNatClampNeg (x3 + (1 : Int32)))), .int (xs (Int32.toNatClampNeg (x3 + (2 : Int32))))]) (rest := [.int r]) ⟨hx, hb, hml, hown, hts⟩ (mX10_ofFace l G _ _ am m1 _ (xs (Int32.toNatClampNeg (x3 + (1 : Int32)))) (xs (Int32.toNatClampNeg (x3 + (2 : Int32))))) (cwV 2 hts gL_law_X10_ofFace rfl rfl rfl (by decide +kernel) ⟨Nat.le_of_ble_eq_true rfl, Nat.le_of_ble_eq_true rfl⟩) hP hD hS hA hKn 0 10 rfl rfl rfl h rfl hl.1 rfl (Nat.le_of_ble_eq_true rfl) dL_law_371 ⟨Nat.le_of_ble_eq_true rfl, Nat.le_of_ble_eq_true rfl⟩ (fun r2 m1 H locs h hP hD hS => ?_)
  have hP : va_P G.1 vwCl (wM G am m1 ++ (wQ G a q ++ (wO G a bb ae g az o ++ (wD G g d ++ (wQ G ae tq ++ (wZ G az zs ++ [])))))) H := hP
  have hD : va_D A (wM G am m1 ++ (wQ G a q ++ (wO G a bb ae g az o ++ (wD G g d ++ (wQ G ae tq ++ (wZ G az zs ++ [])))))) := hD
  obtain ⟨hP, hD⟩ := q_perm ((((((((((List.perm_append_comm_assoc _ _ _).append_left _).trans (List.perm_append_comm_assoc _ _ _)).append_left _).trans (List.perm_append_comm_assoc _ _ _)).append_left _).trans (List.perm_append_comm_assoc _ _ _)).append_left _).trans (List.perm_append_comm_assoc _ _ _))).symm hP hD
  have hP : va_P G.1 vwCl (wQ G a q ++ (wO G a bb ae g az o ++ (wD G g d ++ (wQ G ae tq ++ (wZ G az zs ++ (wM G am m1 ++ [])))))) H := hP
  have hD : va_D A (wQ G a q ++ (wO G a bb ae g az o ++ (wD G g d ++ (wQ G ae tq ++ (wZ G az zs ++ (wM G am m1 ++ [])))))) := hD
  have h : r = r2 ∧ JJ q o d zs m1 := h
  exact lv_icmp_eq (tgt := 764) hx hb dL_law_374 (by decide) (fun c1 => hk q o d tq zs m1 H locs ls h.2 hP hD hS hl) (fun c1 => absurd h.1 c1)
set_option maxHeartbeats 4000000 in
set_option maxRecDepth 100000 in
theorem law_c7 {p : Program} {l : Launch} {e : Env} {s : State} {m : MethodId} {below : List Frame} {meth : Method} {c : Code} {sb L : Nat} {xs : Nat → Int32} {G : qG} {A : Nat → Prop} {a bb ae g am : Nat → Nat} {az : Nat → Nat → Nat} {Qf : State → Prop} (hx : p.tables.exec = Jvm.exec) (hb : c.code = code) (hml : c.maxLocals = 4) (hown : s.vm.findClass RL = some m.cls) (hts : ∀ w ∈ wsL_law, w.before #[Value.ref sb] s = true) (hX : va_X sb L xs s s.heap) (hbl : sb < s.heap.size) (hbA : ¬ A sb) (hA : ∀ q : Nat, s.heap.size ≤ q → A q) (hKn : qKn G A s s.heap) (hL : L ≤ 3584) {x3 : Int32} {i : Nat} (hi : i + 7 ≤ L) (ex : x3 = nI i) (hk : ∀ (q o d tq : qS) (zs : Nat → qS) (m1 : qS) (H : Heap) (locs : List Loc) (ls : Array Slot), JJ q o d zs m1 → va_P G.1 vwCl (wQ G a q ++ (wO G a bb ae g az o ++ (wD G g d ++ (wQ G ae tq ++ (wZ G az zs ++ (wM G am m1 ++ [])))))) H → va_D A (wQ G a q ++ (wO G a bb ae g az o ++ (wD G g d ++ (wQ G ae tq ++ (wZ G az zs ++ (wM G am m1 ++ [])))))) → va_S A s.heap H locs → lv_has ls 4 [(0, .ref sb), (1, .ref (bb 0)), (2, .ref (am 0)), (3, .int x3)] → W p l e room_1 s m #[Value.ref sb] below meth c H locs 600000 7302249 Qf (F0 m 764 ls [])) {q o d tq : qS} {zs : Nat → qS} {m1 : qS} {H : Heap} {locs : List Loc} {ls : Array Slot} (hJ : JJ q o d zs m1) (hP : va_P G.1 vwCl (wQ G a q ++ (wO G a bb ae g az o ++ (wD G g d ++ (wQ G ae tq ++ (wZ G az zs ++ (wM G am m1 ++ [])))))) H) (hD : va_D A (wQ G a q ++ (wO G a bb ae g az o ++ (wD G g d ++ (wQ G ae tq ++ (wZ G az zs ++ (wM G am m1 ++ []))))))) (hS : va_S A s.heap H locs) (hl : lv_has ls 4 [(0, .ref sb), (1, .ref (bb 0)), (2, .ref (am 0)), (3, .int x3)]) : W p l e room_1 s m #[Value.ref sb] below meth c H locs 600000 7302249 Qf (F0 m 379 ls []) := by
  refine lv_aload_n hx hb dL_law_379 rfl (lv_at hl 1 rfl) ?_
  refine lv_aload_n hx hb dL_law_380 rfl (lv_at hl 0 rfl) ?_
  refine lv_iload_n hx hb dL_law_381 rfl (lv_at hl 3 rfl) ?_
  refine lv_iconst (v := (1 : Int32)) hx hb dL_law_382 (by decide) ?_
  refine lv_iadd hx hb dL_law_383 ?_
  refine va_sld hx hb hX hbl hbA hS (law_in (k := 1) (by omega) hL ex) dL_law_384 ?_
  refine lv_aload_n hx hb dL_law_385 rfl (lv_at hl 0 rfl) ?_
  refine lv_iload_n hx hb dL_law_386 rfl (lv_at hl 3 rfl) ?_
  refine lv_iconst (v := (2 : Int32)) hx hb dL_law_387 (by decide) ?_
  refine lv_iadd hx hb dL_law_388 ?_
  refine va_sld hx hb hX hbl hbA hS (law_in (k := 2) (by omega) hL ex) dL_law_389 ?_
  have h : wX9_truck (fun r q o d tq zs => wX10_truck (fun r2 m => r = r2 ∧ JJ q o d zs m) m1 (xs (Int32.toNatClampNeg (x3 + (1 : Int32)))) (xs (Int32.toNatClampNeg (x3 + (2 : Int32))))) q o d tq zs (xs (Int32.toNatClampNeg (x3 + (1 : Int32)))) (xs (Int32.toNatClampNeg (x3 + (2 : Int32)))) := j_truck hJ
  refine qc_vi (As := [.int (xs (Int32.toNatClampNeg (x3 + (1 : Int32)))), .int (xs (Int32.toNatClampNeg (x3 + (2 : Int32))))]) (rest := []) ⟨hx, hb, hml, hown, hts⟩ (mX9_truck l G _ _ a bb g ae az q o d tq zs _ (xs (Int32.toNatClampNeg (x3 + (1 : Int32)))) (xs (Int32.toNatClampNeg (x3 + (2 : Int32))))) (cwV 2 hts gL_law_X9_truck rfl rfl rfl (by decide +kernel) ⟨Nat.le_of_ble_eq_true rfl, Nat.le_of_ble_eq_true rfl⟩) hP hD hS hA hKn 18 9 rfl rfl rfl h rfl hl.1 rfl (Nat.le_of_ble_eq_true rfl) dL_law_390 ⟨Nat.le_of_ble_eq_true rfl, Nat.le_of_ble_eq_true rfl⟩ (fun r u H locs h hP hD hS => ?_)
  obtain ⟨q, o, d, tq, zs⟩ := u
  have hP : va_P G.1 vwCl (wQ G a q ++ (wO G a bb ae g az o ++ (wD G g d ++ (wQ G ae tq ++ (wZ G az zs ++ (wM G am m1 ++ [])))))) H := hP
  have hD : va_D A (wQ G a q ++ (wO G a bb ae g az o ++ (wD G g d ++ (wQ G ae tq ++ (wZ G az zs ++ (wM G am m1 ++ [])))))) := hD
  have h : wX10_truck (fun r2 m => r = r2 ∧ JJ q o d zs m) m1 (xs (Int32.toNatClampNeg (x3 + (1 : Int32)))) (xs (Int32.toNatClampNeg (x3 + (2 : Int32)))) := h
  refine lv_aload_n hx hb dL_law_393 rfl (lv_at hl 2 rfl) ?_
  refine lv_aload_n hx hb dL_law_394 rfl (lv_at hl 0 rfl) ?_
  refine lv_iload_n hx hb dL_law_395 rfl (lv_at hl 3 rfl) ?_
  refine lv_iconst (v := (1 : Int32)) hx hb dL_law_396 (by decide) ?_
  refine lv_iadd hx hb dL_law_397 ?_
  refine va_sld hx hb hX hbl hbA hS (law_in (k := 1) (by omega) hL ex) dL_law_398 ?_
  refine lv_aload_n hx hb dL_law_399 rfl (lv_at hl 0 rfl) ?_
  refine lv_iload_n hx hb dL_law_400 rfl (lv_at hl 3 rfl) ?_
  refine lv_iconst (v := (2 : Int32)) hx hb dL_law_401 (by decide) ?_
  refine lv_iadd hx hb dL_law_402 ?_
  refine va_sld hx hb hX hbl hbA hS (law_in (k := 2) (by omega) hL ex) dL_law_403 ?_
  obtain ⟨hP, hD⟩ := q_perm (((((((((List.perm_append_comm_assoc _ _ _).append_left _).trans (List.perm_append_comm_assoc _ _ _)).append_left _).trans (List.perm_append_comm_assoc _ _ _)).append_left _).trans (List.perm_append_comm_assoc _ _ _)).append_left _).trans (List.perm_append_comm_assoc _ _ _)) hP hD
  have hP : va_P G.1 vwCl (wM G am m1 ++ (wQ G a q ++ (wO G a bb ae g az o ++ (wD G g d ++ (wQ G ae tq ++ (wZ G az zs ++ [])))))) H := hP
  have hD : va_D A (wM G am m1 ++ (wQ G a q ++ (wO G a bb ae g az o ++ (wD G g d ++ (wQ G ae tq ++ (wZ G az zs ++ [])))))) := hD
  refine qc_vi (As := [.int (xs (Int32.toNatClampNeg (x3 + (1 : Int32)))), .int (xs (Int32.toNatClampNeg (x3 + (2 : Int32))))]) (rest := [.int r]) ⟨hx, hb, hml, hown, hts⟩ (mX10_truck l G _ _ am m1 _ (xs (Int32.toNatClampNeg (x3 + (1 : Int32)))) (xs (Int32.toNatClampNeg (x3 + (2 : Int32))))) (cwV 2 hts gL_law_X10_truck rfl rfl rfl (by decide +kernel) ⟨Nat.le_of_ble_eq_true rfl, Nat.le_of_ble_eq_true rfl⟩) hP hD hS hA hKn 0 10 rfl rfl rfl h rfl hl.1 rfl (Nat.le_of_ble_eq_true rfl) dL_law_404 ⟨Nat.le_of_ble_eq_true rfl, Nat.le_of_ble_eq_true rfl⟩ (fun r2 m1 H locs h hP hD hS => ?_)
  have hP : va_P G.1 vwCl (wM G am m1 ++ (wQ G a q ++ (wO G a bb ae g az o ++ (wD G g d ++ (wQ G ae tq ++ (wZ G az zs ++ [])))))) H := hP
  have hD : va_D A (wM G am m1 ++ (wQ G a q ++ (wO G a bb ae g az o ++ (wD G g d ++ (wQ G ae tq ++ (wZ G az zs ++ [])))))) := hD
  obtain ⟨hP, hD⟩ := q_perm ((((((((((List.perm_append_comm_assoc _ _ _).append_left _).trans (List.perm_append_comm_assoc _ _ _)).append_left _).trans (List.perm_append_comm_assoc _ _ _)).append_left _).trans (List.perm_append_comm_assoc _ _ _)).append_left _).trans (List.perm_append_comm_assoc _ _ _))).symm hP hD
  have hP : va_P G.1 vwCl (wQ G a q ++ (wO G a bb ae g az o ++ (wD G g d ++ (wQ G ae tq ++ (wZ G az zs ++ (wM G am m1 ++ [])))))) H := hP
  have hD : va_D A (wQ G a q ++ (wO G a bb ae g az o ++ (wD G g d ++ (wQ G ae tq ++ (wZ G az zs ++ (wM G am m1 ++ [])))))) := hD
  have h : r = r2 ∧ JJ q o d zs m1 := h
  exact lv_icmp_eq (tgt := 764) hx hb dL_law_407 (by decide) (fun c1 => hk q o d tq zs m1 H locs ls h.2 hP hD hS hl) (fun c1 => absurd h.1 c1)
set_option maxHeartbeats 4000000 in
set_option maxRecDepth 100000 in
theorem law_c8 {p : Program} {l : Launch} {e : Env} {s : State} {m : MethodId} {below : List Frame} {meth : Method} {c : Code} {sb L : Nat} {xs : Nat → Int32} {G : qG} {A : Nat → Prop} {a bb ae g am : Nat → Nat} {az : Nat → Nat → Nat} {Qf : State → Prop} (hx : p.tables.exec = Jvm.exec) (hb : c.code = code) (hml : c.maxLocals = 4) (hown : s.vm.findClass RL = some m.cls) (hts : ∀ w ∈ wsL_law, w.before #[Value.ref sb] s = true) (hX : va_X sb L xs s s.heap) (hbl : sb < s.heap.size) (hbA : ¬ A sb) (hA : ∀ q : Nat, s.heap.size ≤ q → A q) (hKn : qKn G A s s.heap) (hL : L ≤ 3584) {x3 : Int32} {i : Nat} (hi : i + 7 ≤ L) (ex : x3 = nI i) (hk : ∀ (q o d tq : qS) (zs : Nat → qS) (m1 : qS) (H : Heap) (locs : List Loc) (ls : Array Slot), JJ q o d zs m1 → va_P G.1 vwCl (wQ G a q ++ (wO G a bb ae g az o ++ (wD G g d ++ (wQ G ae tq ++ (wZ G az zs ++ (wM G am m1 ++ [])))))) H → va_D A (wQ G a q ++ (wO G a bb ae g az o ++ (wD G g d ++ (wQ G ae tq ++ (wZ G az zs ++ (wM G am m1 ++ [])))))) → va_S A s.heap H locs → lv_has ls 4 [(0, .ref sb), (1, .ref (bb 0)), (2, .ref (am 0)), (3, .int x3)] → W p l e room_1 s m #[Value.ref sb] below meth c H locs 600000 7302249 Qf (F0 m 764 ls [])) {q o d tq : qS} {zs : Nat → qS} {m1 : qS} {H : Heap} {locs : List Loc} {ls : Array Slot} (hJ : JJ q o d zs m1) (hP : va_P G.1 vwCl (wQ G a q ++ (wO G a bb ae g az o ++ (wD G g d ++ (wQ G ae tq ++ (wZ G az zs ++ (wM G am m1 ++ [])))))) H) (hD : va_D A (wQ G a q ++ (wO G a bb ae g az o ++ (wD G g d ++ (wQ G ae tq ++ (wZ G az zs ++ (wM G am m1 ++ []))))))) (hS : va_S A s.heap H locs) (hl : lv_has ls 4 [(0, .ref sb), (1, .ref (bb 0)), (2, .ref (am 0)), (3, .int x3)]) : W p l e room_1 s m #[Value.ref sb] below meth c H locs 600000 7302249 Qf (F0 m 412 ls []) := by
  refine lv_aload_n hx hb dL_law_412 rfl (lv_at hl 1 rfl) ?_
  refine lv_aload_n hx hb dL_law_413 rfl (lv_at hl 0 rfl) ?_
  refine lv_iload_n hx hb dL_law_414 rfl (lv_at hl 3 rfl) ?_
  refine lv_iconst (v := (1 : Int32)) hx hb dL_law_415 (by decide) ?_
  refine lv_iadd hx hb dL_law_416 ?_
  refine va_sld hx hb hX hbl hbA hS (law_in (k := 1) (by omega) hL ex) dL_law_417 ?_
  refine lv_aload_n hx hb dL_law_418 rfl (lv_at hl 0 rfl) ?_
  refine lv_iload_n hx hb dL_law_419 rfl (lv_at hl 3 rfl) ?_
  refine lv_iconst (v := (2 : Int32)) hx hb dL_law_420 (by decide) ?_
  refine lv_iadd hx hb dL_law_421 ?_
  refine va_sld hx hb hX hbl hbA hS (law_in (k := 2) (by omega) hL ex) dL_law_422 ?_
  have h : wX9_ofContract (fun r q o d tq zs => wX10_ofContract (fun r2 m => r = r2 ∧ JJ q o d zs m) m1 (xs (Int32.toNatClampNeg (x3 + (1 : Int32)))) (xs (Int32.toNatClampNeg (x3 + (2 : Int32))))) q o d tq zs (xs (Int32.toNatClampNeg (x3 + (1 : Int32)))) (xs (Int32.toNatClampNeg (x3 + (2 : Int32)))) := j_ofContract hJ
  refine qc_vi (As := [.int (xs (Int32.toNatClampNeg (x3 + (1 : Int32)))), .int (xs (Int32.toNatClampNeg (x3 + (2 : Int32))))]) (rest := []) ⟨hx, hb, hml, hown, hts⟩ (mX9_ofContract l G _ _ a bb g ae az q o d tq zs _ (xs (Int32.toNatClampNeg (x3 + (1 : Int32)))) (xs (Int32.toNatClampNeg (x3 + (2 : Int32))))) (cwV 2 hts gL_law_X9_ofContract rfl rfl rfl (by decide +kernel) ⟨Nat.le_of_ble_eq_true rfl, Nat.le_of_ble_eq_true rfl⟩) hP hD hS hA hKn 18 9 rfl rfl rfl h rfl hl.1 rfl (Nat.le_of_ble_eq_true rfl) dL_law_423 ⟨Nat.le_of_ble_eq_true rfl, Nat.le_of_ble_eq_true rfl⟩ (fun r u H locs h hP hD hS => ?_)
  obtain ⟨q, o, d, tq, zs⟩ := u
  have hP : va_P G.1 vwCl (wQ G a q ++ (wO G a bb ae g az o ++ (wD G g d ++ (wQ G ae tq ++ (wZ G az zs ++ (wM G am m1 ++ [])))))) H := hP
  have hD : va_D A (wQ G a q ++ (wO G a bb ae g az o ++ (wD G g d ++ (wQ G ae tq ++ (wZ G az zs ++ (wM G am m1 ++ [])))))) := hD
  have h : wX10_ofContract (fun r2 m => r = r2 ∧ JJ q o d zs m) m1 (xs (Int32.toNatClampNeg (x3 + (1 : Int32)))) (xs (Int32.toNatClampNeg (x3 + (2 : Int32)))) := h
  refine lv_aload_n hx hb dL_law_426 rfl (lv_at hl 2 rfl) ?_
  refine lv_aload_n hx hb dL_law_427 rfl (lv_at hl 0 rfl) ?_
  refine lv_iload_n hx hb dL_law_428 rfl (lv_at hl 3 rfl) ?_
  refine lv_iconst (v := (1 : Int32)) hx hb dL_law_429 (by decide) ?_
  refine lv_iadd hx hb dL_law_430 ?_
  refine va_sld hx hb hX hbl hbA hS (law_in (k := 1) (by omega) hL ex) dL_law_431 ?_
  refine lv_aload_n hx hb dL_law_432 rfl (lv_at hl 0 rfl) ?_
  refine lv_iload_n hx hb dL_law_433 rfl (lv_at hl 3 rfl) ?_
  refine lv_iconst (v := (2 : Int32)) hx hb dL_law_434 (by decide) ?_
  refine lv_iadd hx hb dL_law_435 ?_
  refine va_sld hx hb hX hbl hbA hS (law_in (k := 2) (by omega) hL ex) dL_law_436 ?_
  obtain ⟨hP, hD⟩ := q_perm (((((((((List.perm_append_comm_assoc _ _ _).append_left _).trans (List.perm_append_comm_assoc _ _ _)).append_left _).trans (List.perm_append_comm_assoc _ _ _)).append_left _).trans (List.perm_append_comm_assoc _ _ _)).append_left _).trans (List.perm_append_comm_assoc _ _ _)) hP hD
  have hP : va_P G.1 vwCl (wM G am m1 ++ (wQ G a q ++ (wO G a bb ae g az o ++ (wD G g d ++ (wQ G ae tq ++ (wZ G az zs ++ [])))))) H := hP
  have hD : va_D A (wM G am m1 ++ (wQ G a q ++ (wO G a bb ae g az o ++ (wD G g d ++ (wQ G ae tq ++ (wZ G az zs ++ [])))))) := hD
  refine qc_vi (As := [.int (xs (Int32.toNatClampNeg (x3 + (1 : Int32)))), .int (xs (Int32.toNatClampNeg (x3 + (2 : Int32))))]) (rest := [.int r]) ⟨hx, hb, hml, hown, hts⟩ (mX10_ofContract l G _ _ am m1 _ (xs (Int32.toNatClampNeg (x3 + (1 : Int32)))) (xs (Int32.toNatClampNeg (x3 + (2 : Int32))))) (cwV 2 hts gL_law_X10_ofContract rfl rfl rfl (by decide +kernel) ⟨Nat.le_of_ble_eq_true rfl, Nat.le_of_ble_eq_true rfl⟩) hP hD hS hA hKn 0 10 rfl rfl rfl h rfl hl.1 rfl (Nat.le_of_ble_eq_true rfl) dL_law_437 ⟨Nat.le_of_ble_eq_true rfl, Nat.le_of_ble_eq_true rfl⟩ (fun r2 m1 H locs h hP hD hS => ?_)
  have hP : va_P G.1 vwCl (wM G am m1 ++ (wQ G a q ++ (wO G a bb ae g az o ++ (wD G g d ++ (wQ G ae tq ++ (wZ G az zs ++ [])))))) H := hP
  have hD : va_D A (wM G am m1 ++ (wQ G a q ++ (wO G a bb ae g az o ++ (wD G g d ++ (wQ G ae tq ++ (wZ G az zs ++ [])))))) := hD
  obtain ⟨hP, hD⟩ := q_perm ((((((((((List.perm_append_comm_assoc _ _ _).append_left _).trans (List.perm_append_comm_assoc _ _ _)).append_left _).trans (List.perm_append_comm_assoc _ _ _)).append_left _).trans (List.perm_append_comm_assoc _ _ _)).append_left _).trans (List.perm_append_comm_assoc _ _ _))).symm hP hD
  have hP : va_P G.1 vwCl (wQ G a q ++ (wO G a bb ae g az o ++ (wD G g d ++ (wQ G ae tq ++ (wZ G az zs ++ (wM G am m1 ++ [])))))) H := hP
  have hD : va_D A (wQ G a q ++ (wO G a bb ae g az o ++ (wD G g d ++ (wQ G ae tq ++ (wZ G az zs ++ (wM G am m1 ++ [])))))) := hD
  have h : r = r2 ∧ JJ q o d zs m1 := h
  exact lv_icmp_eq (tgt := 764) hx hb dL_law_440 (by decide) (fun c1 => hk q o d tq zs m1 H locs ls h.2 hP hD hS hl) (fun c1 => absurd h.1 c1)
set_option maxHeartbeats 4000000 in
set_option maxRecDepth 100000 in
theorem law_c9 {p : Program} {l : Launch} {e : Env} {s : State} {m : MethodId} {below : List Frame} {meth : Method} {c : Code} {sb L : Nat} {xs : Nat → Int32} {G : qG} {A : Nat → Prop} {a bb ae g am : Nat → Nat} {az : Nat → Nat → Nat} {Qf : State → Prop} (hx : p.tables.exec = Jvm.exec) (hb : c.code = code) (hml : c.maxLocals = 4) (hown : s.vm.findClass RL = some m.cls) (hts : ∀ w ∈ wsL_law, w.before #[Value.ref sb] s = true) (hX : va_X sb L xs s s.heap) (hbl : sb < s.heap.size) (hbA : ¬ A sb) (hA : ∀ q : Nat, s.heap.size ≤ q → A q) (hKn : qKn G A s s.heap) (hL : L ≤ 3584) {x3 : Int32} {i : Nat} (hi : i + 7 ≤ L) (ex : x3 = nI i) (hk : ∀ (q o d tq : qS) (zs : Nat → qS) (m1 : qS) (H : Heap) (locs : List Loc) (ls : Array Slot), JJ q o d zs m1 → va_P G.1 vwCl (wQ G a q ++ (wO G a bb ae g az o ++ (wD G g d ++ (wQ G ae tq ++ (wZ G az zs ++ (wM G am m1 ++ [])))))) H → va_D A (wQ G a q ++ (wO G a bb ae g az o ++ (wD G g d ++ (wQ G ae tq ++ (wZ G az zs ++ (wM G am m1 ++ [])))))) → va_S A s.heap H locs → lv_has ls 4 [(0, .ref sb), (1, .ref (bb 0)), (2, .ref (am 0)), (3, .int x3)] → W p l e room_1 s m #[Value.ref sb] below meth c H locs 600000 7302249 Qf (F0 m 764 ls [])) {q o d tq : qS} {zs : Nat → qS} {m1 : qS} {H : Heap} {locs : List Loc} {ls : Array Slot} (hJ : JJ q o d zs m1) (hP : va_P G.1 vwCl (wQ G a q ++ (wO G a bb ae g az o ++ (wD G g d ++ (wQ G ae tq ++ (wZ G az zs ++ (wM G am m1 ++ [])))))) H) (hD : va_D A (wQ G a q ++ (wO G a bb ae g az o ++ (wD G g d ++ (wQ G ae tq ++ (wZ G az zs ++ (wM G am m1 ++ []))))))) (hS : va_S A s.heap H locs) (hl : lv_has ls 4 [(0, .ref sb), (1, .ref (bb 0)), (2, .ref (am 0)), (3, .int x3)]) : W p l e room_1 s m #[Value.ref sb] below meth c H locs 600000 7302249 Qf (F0 m 445 ls []) := by
  refine lv_aload_n hx hb dL_law_445 rfl (lv_at hl 1 rfl) ?_
  refine lv_aload_n hx hb dL_law_446 rfl (lv_at hl 0 rfl) ?_
  refine lv_iload_n hx hb dL_law_447 rfl (lv_at hl 3 rfl) ?_
  refine lv_iconst (v := (1 : Int32)) hx hb dL_law_448 (by decide) ?_
  refine lv_iadd hx hb dL_law_449 ?_
  refine va_sld hx hb hX hbl hbA hS (law_in (k := 1) (by omega) hL ex) dL_law_450 ?_
  have h : wX9_bin (fun r q o d tq zs => wX10_bin (fun r2 m => r = r2 ∧ JJ q o d zs m) m1 (xs (Int32.toNatClampNeg (x3 + (1 : Int32))))) q o d tq zs (xs (Int32.toNatClampNeg (x3 + (1 : Int32)))) := j_bin hJ
  refine qc_vi (As := [.int (xs (Int32.toNatClampNeg (x3 + (1 : Int32))))]) (rest := []) ⟨hx, hb, hml, hown, hts⟩ (mX9_bin l G _ _ a bb g ae az q o d tq zs _ (xs (Int32.toNatClampNeg (x3 + (1 : Int32))))) (cwV 1 hts gL_law_X9_bin rfl rfl rfl (by decide +kernel) ⟨Nat.le_of_ble_eq_true rfl, Nat.le_of_ble_eq_true rfl⟩) hP hD hS hA hKn 18 9 rfl rfl rfl h rfl hl.1 rfl (Nat.le_of_ble_eq_true rfl) dL_law_451 ⟨Nat.le_of_ble_eq_true rfl, Nat.le_of_ble_eq_true rfl⟩ (fun r u H locs h hP hD hS => ?_)
  obtain ⟨q, o, d, tq, zs⟩ := u
  have hP : va_P G.1 vwCl (wQ G a q ++ (wO G a bb ae g az o ++ (wD G g d ++ (wQ G ae tq ++ (wZ G az zs ++ (wM G am m1 ++ [])))))) H := hP
  have hD : va_D A (wQ G a q ++ (wO G a bb ae g az o ++ (wD G g d ++ (wQ G ae tq ++ (wZ G az zs ++ (wM G am m1 ++ [])))))) := hD
  have h : wX10_bin (fun r2 m => r = r2 ∧ JJ q o d zs m) m1 (xs (Int32.toNatClampNeg (x3 + (1 : Int32)))) := h
  refine lv_aload_n hx hb dL_law_454 rfl (lv_at hl 2 rfl) ?_
  refine lv_aload_n hx hb dL_law_455 rfl (lv_at hl 0 rfl) ?_
  refine lv_iload_n hx hb dL_law_456 rfl (lv_at hl 3 rfl) ?_
  refine lv_iconst (v := (1 : Int32)) hx hb dL_law_457 (by decide) ?_
  refine lv_iadd hx hb dL_law_458 ?_
  refine va_sld hx hb hX hbl hbA hS (law_in (k := 1) (by omega) hL ex) dL_law_459 ?_
  obtain ⟨hP, hD⟩ := q_perm (((((((((List.perm_append_comm_assoc _ _ _).append_left _).trans (List.perm_append_comm_assoc _ _ _)).append_left _).trans (List.perm_append_comm_assoc _ _ _)).append_left _).trans (List.perm_append_comm_assoc _ _ _)).append_left _).trans (List.perm_append_comm_assoc _ _ _)) hP hD
  have hP : va_P G.1 vwCl (wM G am m1 ++ (wQ G a q ++ (wO G a bb ae g az o ++ (wD G g d ++ (wQ G ae tq ++ (wZ G az zs ++ [])))))) H := hP
  have hD : va_D A (wM G am m1 ++ (wQ G a q ++ (wO G a bb ae g az o ++ (wD G g d ++ (wQ G ae tq ++ (wZ G az zs ++ [])))))) := hD
  refine qc_vi (As := [.int (xs (Int32.toNatClampNeg (x3 + (1 : Int32))))]) (rest := [.int r]) ⟨hx, hb, hml, hown, hts⟩ (mX10_bin l G _ _ am m1 _ (xs (Int32.toNatClampNeg (x3 + (1 : Int32))))) (cwV 1 hts gL_law_X10_bin rfl rfl rfl (by decide +kernel) ⟨Nat.le_of_ble_eq_true rfl, Nat.le_of_ble_eq_true rfl⟩) hP hD hS hA hKn 0 10 rfl rfl rfl h rfl hl.1 rfl (Nat.le_of_ble_eq_true rfl) dL_law_460 ⟨Nat.le_of_ble_eq_true rfl, Nat.le_of_ble_eq_true rfl⟩ (fun r2 m1 H locs h hP hD hS => ?_)
  have hP : va_P G.1 vwCl (wM G am m1 ++ (wQ G a q ++ (wO G a bb ae g az o ++ (wD G g d ++ (wQ G ae tq ++ (wZ G az zs ++ [])))))) H := hP
  have hD : va_D A (wM G am m1 ++ (wQ G a q ++ (wO G a bb ae g az o ++ (wD G g d ++ (wQ G ae tq ++ (wZ G az zs ++ [])))))) := hD
  obtain ⟨hP, hD⟩ := q_perm ((((((((((List.perm_append_comm_assoc _ _ _).append_left _).trans (List.perm_append_comm_assoc _ _ _)).append_left _).trans (List.perm_append_comm_assoc _ _ _)).append_left _).trans (List.perm_append_comm_assoc _ _ _)).append_left _).trans (List.perm_append_comm_assoc _ _ _))).symm hP hD
  have hP : va_P G.1 vwCl (wQ G a q ++ (wO G a bb ae g az o ++ (wD G g d ++ (wQ G ae tq ++ (wZ G az zs ++ (wM G am m1 ++ [])))))) H := hP
  have hD : va_D A (wQ G a q ++ (wO G a bb ae g az o ++ (wD G g d ++ (wQ G ae tq ++ (wZ G az zs ++ (wM G am m1 ++ [])))))) := hD
  have h : r = r2 ∧ JJ q o d zs m1 := h
  exact lv_icmp_eq (tgt := 764) hx hb dL_law_463 (by decide) (fun c1 => hk q o d tq zs m1 H locs ls h.2 hP hD hS hl) (fun c1 => absurd h.1 c1)
set_option maxHeartbeats 4000000 in
set_option maxRecDepth 100000 in
theorem law_c10 {p : Program} {l : Launch} {e : Env} {s : State} {m : MethodId} {below : List Frame} {meth : Method} {c : Code} {sb L : Nat} {xs : Nat → Int32} {G : qG} {A : Nat → Prop} {a bb ae g am : Nat → Nat} {az : Nat → Nat → Nat} {Qf : State → Prop} (hx : p.tables.exec = Jvm.exec) (hb : c.code = code) (hml : c.maxLocals = 4) (hown : s.vm.findClass RL = some m.cls) (hts : ∀ w ∈ wsL_law, w.before #[Value.ref sb] s = true) (hX : va_X sb L xs s s.heap) (hbl : sb < s.heap.size) (hbA : ¬ A sb) (hA : ∀ q : Nat, s.heap.size ≤ q → A q) (hKn : qKn G A s s.heap) (hL : L ≤ 3584) {x3 : Int32} {i : Nat} (hi : i + 7 ≤ L) (ex : x3 = nI i) (hk : ∀ (q o d tq : qS) (zs : Nat → qS) (m1 : qS) (H : Heap) (locs : List Loc) (ls : Array Slot), JJ q o d zs m1 → va_P G.1 vwCl (wQ G a q ++ (wO G a bb ae g az o ++ (wD G g d ++ (wQ G ae tq ++ (wZ G az zs ++ (wM G am m1 ++ [])))))) H → va_D A (wQ G a q ++ (wO G a bb ae g az o ++ (wD G g d ++ (wQ G ae tq ++ (wZ G az zs ++ (wM G am m1 ++ [])))))) → va_S A s.heap H locs → lv_has ls 4 [(0, .ref sb), (1, .ref (bb 0)), (2, .ref (am 0)), (3, .int x3)] → W p l e room_1 s m #[Value.ref sb] below meth c H locs 600000 7302249 Qf (F0 m 764 ls [])) {q o d tq : qS} {zs : Nat → qS} {m1 : qS} {H : Heap} {locs : List Loc} {ls : Array Slot} (hJ : JJ q o d zs m1) (hP : va_P G.1 vwCl (wQ G a q ++ (wO G a bb ae g az o ++ (wD G g d ++ (wQ G ae tq ++ (wZ G az zs ++ (wM G am m1 ++ [])))))) H) (hD : va_D A (wQ G a q ++ (wO G a bb ae g az o ++ (wD G g d ++ (wQ G ae tq ++ (wZ G az zs ++ (wM G am m1 ++ []))))))) (hS : va_S A s.heap H locs) (hl : lv_has ls 4 [(0, .ref sb), (1, .ref (bb 0)), (2, .ref (am 0)), (3, .int x3)]) : W p l e room_1 s m #[Value.ref sb] below meth c H locs 600000 7302249 Qf (F0 m 468 ls []) := by
  refine lv_aload_n hx hb dL_law_468 rfl (lv_at hl 1 rfl) ?_
  refine lv_aload_n hx hb dL_law_469 rfl (lv_at hl 0 rfl) ?_
  refine lv_iload_n hx hb dL_law_470 rfl (lv_at hl 3 rfl) ?_
  refine lv_iconst (v := (1 : Int32)) hx hb dL_law_471 (by decide) ?_
  refine lv_iadd hx hb dL_law_472 ?_
  refine va_sld hx hb hX hbl hbA hS (law_in (k := 1) (by omega) hL ex) dL_law_473 ?_
  have h : wX9_waiting (fun r q o d tq zs => wX10_waiting (fun r2 m => r = r2 ∧ JJ q o d zs m) m1 (xs (Int32.toNatClampNeg (x3 + (1 : Int32))))) q o d tq zs (xs (Int32.toNatClampNeg (x3 + (1 : Int32)))) := j_waiting hJ
  refine qc_vi (As := [.int (xs (Int32.toNatClampNeg (x3 + (1 : Int32))))]) (rest := []) ⟨hx, hb, hml, hown, hts⟩ (mX9_waiting l G _ _ a bb g ae az q o d tq zs _ (xs (Int32.toNatClampNeg (x3 + (1 : Int32))))) (cwV 1 hts gL_law_X9_waiting rfl rfl rfl (by decide +kernel) ⟨Nat.le_of_ble_eq_true rfl, Nat.le_of_ble_eq_true rfl⟩) hP hD hS hA hKn 18 9 rfl rfl rfl h rfl hl.1 rfl (Nat.le_of_ble_eq_true rfl) dL_law_474 ⟨Nat.le_of_ble_eq_true rfl, Nat.le_of_ble_eq_true rfl⟩ (fun r u H locs h hP hD hS => ?_)
  obtain ⟨q, o, d, tq, zs⟩ := u
  have hP : va_P G.1 vwCl (wQ G a q ++ (wO G a bb ae g az o ++ (wD G g d ++ (wQ G ae tq ++ (wZ G az zs ++ (wM G am m1 ++ [])))))) H := hP
  have hD : va_D A (wQ G a q ++ (wO G a bb ae g az o ++ (wD G g d ++ (wQ G ae tq ++ (wZ G az zs ++ (wM G am m1 ++ [])))))) := hD
  have h : wX10_waiting (fun r2 m => r = r2 ∧ JJ q o d zs m) m1 (xs (Int32.toNatClampNeg (x3 + (1 : Int32)))) := h
  refine lv_aload_n hx hb dL_law_477 rfl (lv_at hl 2 rfl) ?_
  refine lv_aload_n hx hb dL_law_478 rfl (lv_at hl 0 rfl) ?_
  refine lv_iload_n hx hb dL_law_479 rfl (lv_at hl 3 rfl) ?_
  refine lv_iconst (v := (1 : Int32)) hx hb dL_law_480 (by decide) ?_
  refine lv_iadd hx hb dL_law_481 ?_
  refine va_sld hx hb hX hbl hbA hS (law_in (k := 1) (by omega) hL ex) dL_law_482 ?_
  obtain ⟨hP, hD⟩ := q_perm (((((((((List.perm_append_comm_assoc _ _ _).append_left _).trans (List.perm_append_comm_assoc _ _ _)).append_left _).trans (List.perm_append_comm_assoc _ _ _)).append_left _).trans (List.perm_append_comm_assoc _ _ _)).append_left _).trans (List.perm_append_comm_assoc _ _ _)) hP hD
  have hP : va_P G.1 vwCl (wM G am m1 ++ (wQ G a q ++ (wO G a bb ae g az o ++ (wD G g d ++ (wQ G ae tq ++ (wZ G az zs ++ [])))))) H := hP
  have hD : va_D A (wM G am m1 ++ (wQ G a q ++ (wO G a bb ae g az o ++ (wD G g d ++ (wQ G ae tq ++ (wZ G az zs ++ [])))))) := hD
  refine qc_vi (As := [.int (xs (Int32.toNatClampNeg (x3 + (1 : Int32))))]) (rest := [.int r]) ⟨hx, hb, hml, hown, hts⟩ (mX10_waiting l G _ _ am m1 _ (xs (Int32.toNatClampNeg (x3 + (1 : Int32))))) (cwV 1 hts gL_law_X10_waiting rfl rfl rfl (by decide +kernel) ⟨Nat.le_of_ble_eq_true rfl, Nat.le_of_ble_eq_true rfl⟩) hP hD hS hA hKn 0 10 rfl rfl rfl h rfl hl.1 rfl (Nat.le_of_ble_eq_true rfl) dL_law_483 ⟨Nat.le_of_ble_eq_true rfl, Nat.le_of_ble_eq_true rfl⟩ (fun r2 m1 H locs h hP hD hS => ?_)
  have hP : va_P G.1 vwCl (wM G am m1 ++ (wQ G a q ++ (wO G a bb ae g az o ++ (wD G g d ++ (wQ G ae tq ++ (wZ G az zs ++ [])))))) H := hP
  have hD : va_D A (wM G am m1 ++ (wQ G a q ++ (wO G a bb ae g az o ++ (wD G g d ++ (wQ G ae tq ++ (wZ G az zs ++ [])))))) := hD
  obtain ⟨hP, hD⟩ := q_perm ((((((((((List.perm_append_comm_assoc _ _ _).append_left _).trans (List.perm_append_comm_assoc _ _ _)).append_left _).trans (List.perm_append_comm_assoc _ _ _)).append_left _).trans (List.perm_append_comm_assoc _ _ _)).append_left _).trans (List.perm_append_comm_assoc _ _ _))).symm hP hD
  have hP : va_P G.1 vwCl (wQ G a q ++ (wO G a bb ae g az o ++ (wD G g d ++ (wQ G ae tq ++ (wZ G az zs ++ (wM G am m1 ++ [])))))) H := hP
  have hD : va_D A (wQ G a q ++ (wO G a bb ae g az o ++ (wD G g d ++ (wQ G ae tq ++ (wZ G az zs ++ (wM G am m1 ++ [])))))) := hD
  have h : r = r2 ∧ JJ q o d zs m1 := h
  exact lv_icmp_eq (tgt := 764) hx hb dL_law_486 (by decide) (fun c1 => hk q o d tq zs m1 H locs ls h.2 hP hD hS hl) (fun c1 => absurd h.1 c1)
set_option maxHeartbeats 4000000 in
set_option maxRecDepth 100000 in
theorem law_c11 {p : Program} {l : Launch} {e : Env} {s : State} {m : MethodId} {below : List Frame} {meth : Method} {c : Code} {sb L : Nat} {xs : Nat → Int32} {G : qG} {A : Nat → Prop} {a bb ae g am : Nat → Nat} {az : Nat → Nat → Nat} {Qf : State → Prop} (hx : p.tables.exec = Jvm.exec) (hb : c.code = code) (hml : c.maxLocals = 4) (hown : s.vm.findClass RL = some m.cls) (hts : ∀ w ∈ wsL_law, w.before #[Value.ref sb] s = true) (hX : va_X sb L xs s s.heap) (hbl : sb < s.heap.size) (hbA : ¬ A sb) (hA : ∀ q : Nat, s.heap.size ≤ q → A q) (hKn : qKn G A s s.heap) (hL : L ≤ 3584) {x3 : Int32} {i : Nat} (hi : i + 7 ≤ L) (ex : x3 = nI i) (hk : ∀ (q o d tq : qS) (zs : Nat → qS) (m1 : qS) (H : Heap) (locs : List Loc) (ls : Array Slot), JJ q o d zs m1 → va_P G.1 vwCl (wQ G a q ++ (wO G a bb ae g az o ++ (wD G g d ++ (wQ G ae tq ++ (wZ G az zs ++ (wM G am m1 ++ [])))))) H → va_D A (wQ G a q ++ (wO G a bb ae g az o ++ (wD G g d ++ (wQ G ae tq ++ (wZ G az zs ++ (wM G am m1 ++ [])))))) → va_S A s.heap H locs → lv_has ls 4 [(0, .ref sb), (1, .ref (bb 0)), (2, .ref (am 0)), (3, .int x3)] → W p l e room_1 s m #[Value.ref sb] below meth c H locs 600000 7302249 Qf (F0 m 764 ls [])) {q o d tq : qS} {zs : Nat → qS} {m1 : qS} {H : Heap} {locs : List Loc} {ls : Array Slot} (hJ : JJ q o d zs m1) (hP : va_P G.1 vwCl (wQ G a q ++ (wO G a bb ae g az o ++ (wD G g d ++ (wQ G ae tq ++ (wZ G az zs ++ (wM G am m1 ++ [])))))) H) (hD : va_D A (wQ G a q ++ (wO G a bb ae g az o ++ (wD G g d ++ (wQ G ae tq ++ (wZ G az zs ++ (wM G am m1 ++ []))))))) (hS : va_S A s.heap H locs) (hl : lv_has ls 4 [(0, .ref sb), (1, .ref (bb 0)), (2, .ref (am 0)), (3, .int x3)]) : W p l e room_1 s m #[Value.ref sb] below meth c H locs 600000 7302249 Qf (F0 m 491 ls []) := by
  refine lv_aload_n hx hb dL_law_491 rfl (lv_at hl 1 rfl) ?_
  refine lv_aload_n hx hb dL_law_492 rfl (lv_at hl 0 rfl) ?_
  refine lv_iload_n hx hb dL_law_493 rfl (lv_at hl 3 rfl) ?_
  refine lv_iconst (v := (1 : Int32)) hx hb dL_law_494 (by decide) ?_
  refine lv_iadd hx hb dL_law_495 ?_
  refine va_sld hx hb hX hbl hbA hS (law_in (k := 1) (by omega) hL ex) dL_law_496 ?_
  have h : wX9_count (fun r q o d tq zs => wX10_count (fun r2 m => r = r2 ∧ JJ q o d zs m) m1 (xs (Int32.toNatClampNeg (x3 + (1 : Int32))))) q o d tq zs (xs (Int32.toNatClampNeg (x3 + (1 : Int32)))) := j_count hJ
  refine qc_vi (As := [.int (xs (Int32.toNatClampNeg (x3 + (1 : Int32))))]) (rest := []) ⟨hx, hb, hml, hown, hts⟩ (mX9_count l G _ _ a bb g ae az q o d tq zs _ (xs (Int32.toNatClampNeg (x3 + (1 : Int32))))) (cwV 1 hts gL_law_X9_count rfl rfl rfl (by decide +kernel) ⟨Nat.le_of_ble_eq_true rfl, Nat.le_of_ble_eq_true rfl⟩) hP hD hS hA hKn 18 9 rfl rfl rfl h rfl hl.1 rfl (Nat.le_of_ble_eq_true rfl) dL_law_497 ⟨Nat.le_of_ble_eq_true rfl, Nat.le_of_ble_eq_true rfl⟩ (fun r u H locs h hP hD hS => ?_)
  obtain ⟨q, o, d, tq, zs⟩ := u
  have hP : va_P G.1 vwCl (wQ G a q ++ (wO G a bb ae g az o ++ (wD G g d ++ (wQ G ae tq ++ (wZ G az zs ++ (wM G am m1 ++ [])))))) H := hP
  have hD : va_D A (wQ G a q ++ (wO G a bb ae g az o ++ (wD G g d ++ (wQ G ae tq ++ (wZ G az zs ++ (wM G am m1 ++ [])))))) := hD
  have h : wX10_count (fun r2 m => r = r2 ∧ JJ q o d zs m) m1 (xs (Int32.toNatClampNeg (x3 + (1 : Int32)))) := h
  refine lv_aload_n hx hb dL_law_500 rfl (lv_at hl 2 rfl) ?_
  refine lv_aload_n hx hb dL_law_501 rfl (lv_at hl 0 rfl) ?_
  refine lv_iload_n hx hb dL_law_502 rfl (lv_at hl 3 rfl) ?_
  refine lv_iconst (v := (1 : Int32)) hx hb dL_law_503 (by decide) ?_
  refine lv_iadd hx hb dL_law_504 ?_
  refine va_sld hx hb hX hbl hbA hS (law_in (k := 1) (by omega) hL ex) dL_law_505 ?_
  obtain ⟨hP, hD⟩ := q_perm (((((((((List.perm_append_comm_assoc _ _ _).append_left _).trans (List.perm_append_comm_assoc _ _ _)).append_left _).trans (List.perm_append_comm_assoc _ _ _)).append_left _).trans (List.perm_append_comm_assoc _ _ _)).append_left _).trans (List.perm_append_comm_assoc _ _ _)) hP hD
  have hP : va_P G.1 vwCl (wM G am m1 ++ (wQ G a q ++ (wO G a bb ae g az o ++ (wD G g d ++ (wQ G ae tq ++ (wZ G az zs ++ [])))))) H := hP
  have hD : va_D A (wM G am m1 ++ (wQ G a q ++ (wO G a bb ae g az o ++ (wD G g d ++ (wQ G ae tq ++ (wZ G az zs ++ [])))))) := hD
  refine qc_vi (As := [.int (xs (Int32.toNatClampNeg (x3 + (1 : Int32))))]) (rest := [.int r]) ⟨hx, hb, hml, hown, hts⟩ (mX10_count l G _ _ am m1 _ (xs (Int32.toNatClampNeg (x3 + (1 : Int32))))) (cwV 1 hts gL_law_X10_count rfl rfl rfl (by decide +kernel) ⟨Nat.le_of_ble_eq_true rfl, Nat.le_of_ble_eq_true rfl⟩) hP hD hS hA hKn 0 10 rfl rfl rfl h rfl hl.1 rfl (Nat.le_of_ble_eq_true rfl) dL_law_506 ⟨Nat.le_of_ble_eq_true rfl, Nat.le_of_ble_eq_true rfl⟩ (fun r2 m1 H locs h hP hD hS => ?_)
  have hP : va_P G.1 vwCl (wM G am m1 ++ (wQ G a q ++ (wO G a bb ae g az o ++ (wD G g d ++ (wQ G ae tq ++ (wZ G az zs ++ [])))))) H := hP
  have hD : va_D A (wM G am m1 ++ (wQ G a q ++ (wO G a bb ae g az o ++ (wD G g d ++ (wQ G ae tq ++ (wZ G az zs ++ [])))))) := hD
  obtain ⟨hP, hD⟩ := q_perm ((((((((((List.perm_append_comm_assoc _ _ _).append_left _).trans (List.perm_append_comm_assoc _ _ _)).append_left _).trans (List.perm_append_comm_assoc _ _ _)).append_left _).trans (List.perm_append_comm_assoc _ _ _)).append_left _).trans (List.perm_append_comm_assoc _ _ _))).symm hP hD
  have hP : va_P G.1 vwCl (wQ G a q ++ (wO G a bb ae g az o ++ (wD G g d ++ (wQ G ae tq ++ (wZ G az zs ++ (wM G am m1 ++ [])))))) H := hP
  have hD : va_D A (wQ G a q ++ (wO G a bb ae g az o ++ (wD G g d ++ (wQ G ae tq ++ (wZ G az zs ++ (wM G am m1 ++ [])))))) := hD
  have h : r = r2 ∧ JJ q o d zs m1 := h
  exact lv_icmp_eq (tgt := 764) hx hb dL_law_509 (by decide) (fun c1 => hk q o d tq zs m1 H locs ls h.2 hP hD hS hl) (fun c1 => absurd h.1 c1)
set_option maxHeartbeats 4000000 in
set_option maxRecDepth 100000 in
theorem law_c12 {p : Program} {l : Launch} {e : Env} {s : State} {m : MethodId} {below : List Frame} {meth : Method} {c : Code} {sb L : Nat} {xs : Nat → Int32} {G : qG} {A : Nat → Prop} {a bb ae g am : Nat → Nat} {az : Nat → Nat → Nat} {Qf : State → Prop} (hx : p.tables.exec = Jvm.exec) (hb : c.code = code) (hml : c.maxLocals = 4) (hown : s.vm.findClass RL = some m.cls) (hts : ∀ w ∈ wsL_law, w.before #[Value.ref sb] s = true) (hX : va_X sb L xs s s.heap) (hbl : sb < s.heap.size) (hbA : ¬ A sb) (hA : ∀ q : Nat, s.heap.size ≤ q → A q) (hKn : qKn G A s s.heap) (hL : L ≤ 3584) {x3 : Int32} {i : Nat} (hi : i + 7 ≤ L) (ex : x3 = nI i) (hk : ∀ (q o d tq : qS) (zs : Nat → qS) (m1 : qS) (H : Heap) (locs : List Loc) (ls : Array Slot), JJ q o d zs m1 → va_P G.1 vwCl (wQ G a q ++ (wO G a bb ae g az o ++ (wD G g d ++ (wQ G ae tq ++ (wZ G az zs ++ (wM G am m1 ++ [])))))) H → va_D A (wQ G a q ++ (wO G a bb ae g az o ++ (wD G g d ++ (wQ G ae tq ++ (wZ G az zs ++ (wM G am m1 ++ [])))))) → va_S A s.heap H locs → lv_has ls 4 [(0, .ref sb), (1, .ref (bb 0)), (2, .ref (am 0)), (3, .int x3)] → W p l e room_1 s m #[Value.ref sb] below meth c H locs 600000 7302249 Qf (F0 m 764 ls [])) {q o d tq : qS} {zs : Nat → qS} {m1 : qS} {H : Heap} {locs : List Loc} {ls : Array Slot} (hJ : JJ q o d zs m1) (hP : va_P G.1 vwCl (wQ G a q ++ (wO G a bb ae g az o ++ (wD G g d ++ (wQ G ae tq ++ (wZ G az zs ++ (wM G am m1 ++ [])))))) H) (hD : va_D A (wQ G a q ++ (wO G a bb ae g az o ++ (wD G g d ++ (wQ G ae tq ++ (wZ G az zs ++ (wM G am m1 ++ []))))))) (hS : va_S A s.heap H locs) (hl : lv_has ls 4 [(0, .ref sb), (1, .ref (bb 0)), (2, .ref (am 0)), (3, .int x3)]) : W p l e room_1 s m #[Value.ref sb] below meth c H locs 600000 7302249 Qf (F0 m 514 ls []) := by
  refine lv_aload_n hx hb dL_law_514 rfl (lv_at hl 1 rfl) ?_
  refine lv_aload_n hx hb dL_law_515 rfl (lv_at hl 0 rfl) ?_
  refine lv_iload_n hx hb dL_law_516 rfl (lv_at hl 3 rfl) ?_
  refine lv_iconst (v := (1 : Int32)) hx hb dL_law_517 (by decide) ?_
  refine lv_iadd hx hb dL_law_518 ?_
  refine va_sld hx hb hX hbl hbA hS (law_in (k := 1) (by omega) hL ex) dL_law_519 ?_
  refine lv_aload_n hx hb dL_law_520 rfl (lv_at hl 0 rfl) ?_
  refine lv_iload_n hx hb dL_law_521 rfl (lv_at hl 3 rfl) ?_
  refine lv_iconst (v := (2 : Int32)) hx hb dL_law_522 (by decide) ?_
  refine lv_iadd hx hb dL_law_523 ?_
  refine va_sld hx hb hX hbl hbA hS (law_in (k := 2) (by omega) hL ex) dL_law_524 ?_
  have h : wX9_then (fun r q o d tq zs => wX10_then (fun r2 m => r = r2 ∧ JJ q o d zs m) m1 (xs (Int32.toNatClampNeg (x3 + (1 : Int32)))) (xs (Int32.toNatClampNeg (x3 + (2 : Int32))))) q o d tq zs (xs (Int32.toNatClampNeg (x3 + (1 : Int32)))) (xs (Int32.toNatClampNeg (x3 + (2 : Int32)))) := j_then hJ
  refine qc_vi (As := [.int (xs (Int32.toNatClampNeg (x3 + (1 : Int32)))), .int (xs (Int32.toNatClampNeg (x3 + (2 : Int32))))]) (rest := []) ⟨hx, hb, hml, hown, hts⟩ (mX9_then l G _ _ a bb g ae az q o d tq zs _ (xs (Int32.toNatClampNeg (x3 + (1 : Int32)))) (xs (Int32.toNatClampNeg (x3 + (2 : Int32))))) (cwV 2 hts gL_law_X9_then rfl rfl rfl (by decide +kernel) ⟨Nat.le_of_ble_eq_true rfl, Nat.le_of_ble_eq_true rfl⟩) hP hD hS hA hKn 18 9 rfl rfl rfl h rfl hl.1 rfl (Nat.le_of_ble_eq_true rfl) dL_law_525 ⟨Nat.le_of_ble_eq_true rfl, Nat.le_of_ble_eq_true rfl⟩ (fun r u H locs h hP hD hS => ?_)
  obtain ⟨q, o, d, tq, zs⟩ := u
  have hP : va_P G.1 vwCl (wQ G a q ++ (wO G a bb ae g az o ++ (wD G g d ++ (wQ G ae tq ++ (wZ G az zs ++ (wM G am m1 ++ [])))))) H := hP
  have hD : va_D A (wQ G a q ++ (wO G a bb ae g az o ++ (wD G g d ++ (wQ G ae tq ++ (wZ G az zs ++ (wM G am m1 ++ [])))))) := hD
  have h : wX10_then (fun r2 m => r = r2 ∧ JJ q o d zs m) m1 (xs (Int32.toNatClampNeg (x3 + (1 : Int32)))) (xs (Int32.toNatClampNeg (x3 + (2 : Int32)))) := h
  refine lv_aload_n hx hb dL_law_528 rfl (lv_at hl 2 rfl) ?_
  refine lv_aload_n hx hb dL_law_529 rfl (lv_at hl 0 rfl) ?_
  refine lv_iload_n hx hb dL_law_530 rfl (lv_at hl 3 rfl) ?_
  refine lv_iconst (v := (1 : Int32)) hx hb dL_law_531 (by decide) ?_
  refine lv_iadd hx hb dL_law_532 ?_
  refine va_sld hx hb hX hbl hbA hS (law_in (k := 1) (by omega) hL ex) dL_law_533 ?_
  refine lv_aload_n hx hb dL_law_534 rfl (lv_at hl 0 rfl) ?_
  refine lv_iload_n hx hb dL_law_535 rfl (lv_at hl 3 rfl) ?_
  refine lv_iconst (v := (2 : Int32)) hx hb dL_law_536 (by decide) ?_
  refine lv_iadd hx hb dL_law_537 ?_
  refine va_sld hx hb hX hbl hbA hS (law_in (k := 2) (by omega) hL ex) dL_law_538 ?_
  obtain ⟨hP, hD⟩ := q_perm (((((((((List.perm_append_comm_assoc _ _ _).append_left _).trans (List.perm_append_comm_assoc _ _ _)).append_left _).trans (List.perm_append_comm_assoc _ _ _)).append_left _).trans (List.perm_append_comm_assoc _ _ _)).append_left _).trans (List.perm_append_comm_assoc _ _ _)) hP hD
  have hP : va_P G.1 vwCl (wM G am m1 ++ (wQ G a q ++ (wO G a bb ae g az o ++ (wD G g d ++ (wQ G ae tq ++ (wZ G az zs ++ [])))))) H := hP
  have hD : va_D A (wM G am m1 ++ (wQ G a q ++ (wO G a bb ae g az o ++ (wD G g d ++ (wQ G ae tq ++ (wZ G az zs ++ [])))))) := hD
  refine qc_vi (As := [.int (xs (Int32.toNatClampNeg (x3 + (1 : Int32)))), .int (xs (Int32.toNatClampNeg (x3 + (2 : Int32))))]) (rest := [.int r]) ⟨hx, hb, hml, hown, hts⟩ (mX10_then l G _ _ am m1 _ (xs (Int32.toNatClampNeg (x3 + (1 : Int32)))) (xs (Int32.toNatClampNeg (x3 + (2 : Int32))))) (cwV 2 hts gL_law_X10_then rfl rfl rfl (by decide +kernel) ⟨Nat.le_of_ble_eq_true rfl, Nat.le_of_ble_eq_true rfl⟩) hP hD hS hA hKn 0 10 rfl rfl rfl h rfl hl.1 rfl (Nat.le_of_ble_eq_true rfl) dL_law_539 ⟨Nat.le_of_ble_eq_true rfl, Nat.le_of_ble_eq_true rfl⟩ (fun r2 m1 H locs h hP hD hS => ?_)
  have hP : va_P G.1 vwCl (wM G am m1 ++ (wQ G a q ++ (wO G a bb ae g az o ++ (wD G g d ++ (wQ G ae tq ++ (wZ G az zs ++ [])))))) H := hP
  have hD : va_D A (wM G am m1 ++ (wQ G a q ++ (wO G a bb ae g az o ++ (wD G g d ++ (wQ G ae tq ++ (wZ G az zs ++ [])))))) := hD
  obtain ⟨hP, hD⟩ := q_perm ((((((((((List.perm_append_comm_assoc _ _ _).append_left _).trans (List.perm_append_comm_assoc _ _ _)).append_left _).trans (List.perm_append_comm_assoc _ _ _)).append_left _).trans (List.perm_append_comm_assoc _ _ _)).append_left _).trans (List.perm_append_comm_assoc _ _ _))).symm hP hD
  have hP : va_P G.1 vwCl (wQ G a q ++ (wO G a bb ae g az o ++ (wD G g d ++ (wQ G ae tq ++ (wZ G az zs ++ (wM G am m1 ++ [])))))) H := hP
  have hD : va_D A (wQ G a q ++ (wO G a bb ae g az o ++ (wD G g d ++ (wQ G ae tq ++ (wZ G az zs ++ (wM G am m1 ++ [])))))) := hD
  have h : r = r2 ∧ JJ q o d zs m1 := h
  exact lv_icmp_eq (tgt := 764) hx hb dL_law_542 (by decide) (fun c1 => hk q o d tq zs m1 H locs ls h.2 hP hD hS hl) (fun c1 => absurd h.1 c1)
set_option maxHeartbeats 4000000 in
set_option maxRecDepth 100000 in
theorem law_c13 {p : Program} {l : Launch} {e : Env} {s : State} {m : MethodId} {below : List Frame} {meth : Method} {c : Code} {sb L : Nat} {xs : Nat → Int32} {G : qG} {A : Nat → Prop} {a bb ae g am : Nat → Nat} {az : Nat → Nat → Nat} {Qf : State → Prop} (hx : p.tables.exec = Jvm.exec) (hb : c.code = code) (hml : c.maxLocals = 4) (hown : s.vm.findClass RL = some m.cls) (hts : ∀ w ∈ wsL_law, w.before #[Value.ref sb] s = true) (hX : va_X sb L xs s s.heap) (hbl : sb < s.heap.size) (hbA : ¬ A sb) (hA : ∀ q : Nat, s.heap.size ≤ q → A q) (hKn : qKn G A s s.heap) (hL : L ≤ 3584) {x3 : Int32} {i : Nat} (hi : i + 7 ≤ L) (ex : x3 = nI i) (hk : ∀ (q o d tq : qS) (zs : Nat → qS) (m1 : qS) (H : Heap) (locs : List Loc) (ls : Array Slot), JJ q o d zs m1 → va_P G.1 vwCl (wQ G a q ++ (wO G a bb ae g az o ++ (wD G g d ++ (wQ G ae tq ++ (wZ G az zs ++ (wM G am m1 ++ [])))))) H → va_D A (wQ G a q ++ (wO G a bb ae g az o ++ (wD G g d ++ (wQ G ae tq ++ (wZ G az zs ++ (wM G am m1 ++ [])))))) → va_S A s.heap H locs → lv_has ls 4 [(0, .ref sb), (1, .ref (bb 0)), (2, .ref (am 0)), (3, .int x3)] → W p l e room_1 s m #[Value.ref sb] below meth c H locs 600000 7302249 Qf (F0 m 764 ls [])) {q o d tq : qS} {zs : Nat → qS} {m1 : qS} {H : Heap} {locs : List Loc} {ls : Array Slot} (hJ : JJ q o d zs m1) (hP : va_P G.1 vwCl (wQ G a q ++ (wO G a bb ae g az o ++ (wD G g d ++ (wQ G ae tq ++ (wZ G az zs ++ (wM G am m1 ++ [])))))) H) (hD : va_D A (wQ G a q ++ (wO G a bb ae g az o ++ (wD G g d ++ (wQ G ae tq ++ (wZ G az zs ++ (wM G am m1 ++ []))))))) (hS : va_S A s.heap H locs) (hl : lv_has ls 4 [(0, .ref sb), (1, .ref (bb 0)), (2, .ref (am 0)), (3, .int x3)]) : W p l e room_1 s m #[Value.ref sb] below meth c H locs 600000 7302249 Qf (F0 m 547 ls []) := by
  refine lv_aload_n hx hb dL_law_547 rfl (lv_at hl 1 rfl) ?_
  refine lv_aload_n hx hb dL_law_548 rfl (lv_at hl 0 rfl) ?_
  refine lv_iload_n hx hb dL_law_549 rfl (lv_at hl 3 rfl) ?_
  refine lv_iconst (v := (1 : Int32)) hx hb dL_law_550 (by decide) ?_
  refine lv_iadd hx hb dL_law_551 ?_
  refine va_sld hx hb hX hbl hbA hS (law_in (k := 1) (by omega) hL ex) dL_law_552 ?_
  refine lv_aload_n hx hb dL_law_553 rfl (lv_at hl 0 rfl) ?_
  refine lv_iload_n hx hb dL_law_554 rfl (lv_at hl 3 rfl) ?_
  refine lv_iconst (v := (2 : Int32)) hx hb dL_law_555 (by decide) ?_
  refine lv_iadd hx hb dL_law_556 ?_
  refine va_sld hx hb hX hbl hbA hS (law_in (k := 2) (by omega) hL ex) dL_law_557 ?_
  have h : wX9_bestGap (fun r q o d tq zs => wX10_bestGap (fun r2 m => r = r2 ∧ JJ q o d zs m) m1 (xs (Int32.toNatClampNeg (x3 + (1 : Int32)))) (xs (Int32.toNatClampNeg (x3 + (2 : Int32))))) q o d tq zs (xs (Int32.toNatClampNeg (x3 + (1 : Int32)))) (xs (Int32.toNatClampNeg (x3 + (2 : Int32)))) := j_bestGap hJ
  refine qc_vi (As := [.int (xs (Int32.toNatClampNeg (x3 + (1 : Int32)))), .int (xs (Int32.toNatClampNeg (x3 + (2 : Int32))))]) (rest := []) ⟨hx, hb, hml, hown, hts⟩ (mX9_bestGap l G _ _ a bb g ae az q o d tq zs _ (xs (Int32.toNatClampNeg (x3 + (1 : Int32)))) (xs (Int32.toNatClampNeg (x3 + (2 : Int32))))) (cwV 2 hts gL_law_X9_bestGap rfl rfl rfl (by decide +kernel) ⟨Nat.le_of_ble_eq_true rfl, Nat.le_of_ble_eq_true rfl⟩) hP hD hS hA hKn 18 9 rfl rfl rfl h rfl hl.1 rfl (Nat.le_of_ble_eq_true rfl) dL_law_558 ⟨Nat.le_of_ble_eq_true rfl, Nat.le_of_ble_eq_true rfl⟩ (fun r u H locs h hP hD hS => ?_)
  obtain ⟨q, o, d, tq, zs⟩ := u
  have hP : va_P G.1 vwCl (wQ G a q ++ (wO G a bb ae g az o ++ (wD G g d ++ (wQ G ae tq ++ (wZ G az zs ++ (wM G am m1 ++ [])))))) H := hP
  have hD : va_D A (wQ G a q ++ (wO G a bb ae g az o ++ (wD G g d ++ (wQ G ae tq ++ (wZ G az zs ++ (wM G am m1 ++ [])))))) := hD
  have h : wX10_bestGap (fun r2 m => r = r2 ∧ JJ q o d zs m) m1 (xs (Int32.toNatClampNeg (x3 + (1 : Int32)))) (xs (Int32.toNatClampNeg (x3 + (2 : Int32)))) := h
  refine lv_aload_n hx hb dL_law_561 rfl (lv_at hl 2 rfl) ?_
  refine lv_aload_n hx hb dL_law_562 rfl (lv_at hl 0 rfl) ?_
  refine lv_iload_n hx hb dL_law_563 rfl (lv_at hl 3 rfl) ?_
  refine lv_iconst (v := (1 : Int32)) hx hb dL_law_564 (by decide) ?_
  refine lv_iadd hx hb dL_law_565 ?_
  refine va_sld hx hb hX hbl hbA hS (law_in (k := 1) (by omega) hL ex) dL_law_566 ?_
  refine lv_aload_n hx hb dL_law_567 rfl (lv_at hl 0 rfl) ?_
  refine lv_iload_n hx hb dL_law_568 rfl (lv_at hl 3 rfl) ?_
  refine lv_iconst (v := (2 : Int32)) hx hb dL_law_569 (by decide) ?_
  refine lv_iadd hx hb dL_law_570 ?_
  refine va_sld hx hb hX hbl hbA hS (law_in (k := 2) (by omega) hL ex) dL_law_571 ?_
  obtain ⟨hP, hD⟩ := q_perm (((((((((List.perm_append_comm_assoc _ _ _).append_left _).trans (List.perm_append_comm_assoc _ _ _)).append_left _).trans (List.perm_append_comm_assoc _ _ _)).append_left _).trans (List.perm_append_comm_assoc _ _ _)).append_left _).trans (List.perm_append_comm_assoc _ _ _)) hP hD
  have hP : va_P G.1 vwCl (wM G am m1 ++ (wQ G a q ++ (wO G a bb ae g az o ++ (wD G g d ++ (wQ G ae tq ++ (wZ G az zs ++ [])))))) H := hP
  have hD : va_D A (wM G am m1 ++ (wQ G a q ++ (wO G a bb ae g az o ++ (wD G g d ++ (wQ G ae tq ++ (wZ G az zs ++ [])))))) := hD
  refine qc_vi (As := [.int (xs (Int32.toNatClampNeg (x3 + (1 : Int32)))), .int (xs (Int32.toNatClampNeg (x3 + (2 : Int32))))]) (rest := [.int r]) ⟨hx, hb, hml, hown, hts⟩ (mX10_bestGap l G _ _ am m1 _ (xs (Int32.toNatClampNeg (x3 + (1 : Int32)))) (xs (Int32.toNatClampNeg (x3 + (2 : Int32))))) (cwV 2 hts gL_law_X10_bestGap rfl rfl rfl (by decide +kernel) ⟨Nat.le_of_ble_eq_true rfl, Nat.le_of_ble_eq_true rfl⟩) hP hD hS hA hKn 0 10 rfl rfl rfl h rfl hl.1 rfl (Nat.le_of_ble_eq_true rfl) dL_law_572 ⟨Nat.le_of_ble_eq_true rfl, Nat.le_of_ble_eq_true rfl⟩ (fun r2 m1 H locs h hP hD hS => ?_)
  have hP : va_P G.1 vwCl (wM G am m1 ++ (wQ G a q ++ (wO G a bb ae g az o ++ (wD G g d ++ (wQ G ae tq ++ (wZ G az zs ++ [])))))) H := hP
  have hD : va_D A (wM G am m1 ++ (wQ G a q ++ (wO G a bb ae g az o ++ (wD G g d ++ (wQ G ae tq ++ (wZ G az zs ++ [])))))) := hD
  obtain ⟨hP, hD⟩ := q_perm ((((((((((List.perm_append_comm_assoc _ _ _).append_left _).trans (List.perm_append_comm_assoc _ _ _)).append_left _).trans (List.perm_append_comm_assoc _ _ _)).append_left _).trans (List.perm_append_comm_assoc _ _ _)).append_left _).trans (List.perm_append_comm_assoc _ _ _))).symm hP hD
  have hP : va_P G.1 vwCl (wQ G a q ++ (wO G a bb ae g az o ++ (wD G g d ++ (wQ G ae tq ++ (wZ G az zs ++ (wM G am m1 ++ [])))))) H := hP
  have hD : va_D A (wQ G a q ++ (wO G a bb ae g az o ++ (wD G g d ++ (wQ G ae tq ++ (wZ G az zs ++ (wM G am m1 ++ [])))))) := hD
  have h : r = r2 ∧ JJ q o d zs m1 := h
  exact lv_icmp_eq (tgt := 764) hx hb dL_law_575 (by decide) (fun c1 => hk q o d tq zs m1 H locs ls h.2 hP hD hS hl) (fun c1 => absurd h.1 c1)
set_option maxHeartbeats 4000000 in
set_option maxRecDepth 100000 in
theorem law_c14 {p : Program} {l : Launch} {e : Env} {s : State} {m : MethodId} {below : List Frame} {meth : Method} {c : Code} {sb L : Nat} {xs : Nat → Int32} {G : qG} {A : Nat → Prop} {a bb ae g am : Nat → Nat} {az : Nat → Nat → Nat} {Qf : State → Prop} (hx : p.tables.exec = Jvm.exec) (hb : c.code = code) (hml : c.maxLocals = 4) (hown : s.vm.findClass RL = some m.cls) (hts : ∀ w ∈ wsL_law, w.before #[Value.ref sb] s = true) (hX : va_X sb L xs s s.heap) (hbl : sb < s.heap.size) (hbA : ¬ A sb) (hA : ∀ q : Nat, s.heap.size ≤ q → A q) (hKn : qKn G A s s.heap) (hL : L ≤ 3584) {x3 : Int32} {i : Nat} (hi : i + 7 ≤ L) (ex : x3 = nI i) (hk : ∀ (q o d tq : qS) (zs : Nat → qS) (m1 : qS) (H : Heap) (locs : List Loc) (ls : Array Slot), JJ q o d zs m1 → va_P G.1 vwCl (wQ G a q ++ (wO G a bb ae g az o ++ (wD G g d ++ (wQ G ae tq ++ (wZ G az zs ++ (wM G am m1 ++ [])))))) H → va_D A (wQ G a q ++ (wO G a bb ae g az o ++ (wD G g d ++ (wQ G ae tq ++ (wZ G az zs ++ (wM G am m1 ++ [])))))) → va_S A s.heap H locs → lv_has ls 4 [(0, .ref sb), (1, .ref (bb 0)), (2, .ref (am 0)), (3, .int x3)] → W p l e room_1 s m #[Value.ref sb] below meth c H locs 600000 7302249 Qf (F0 m 764 ls [])) {q o d tq : qS} {zs : Nat → qS} {m1 : qS} {H : Heap} {locs : List Loc} {ls : Array Slot} (hJ : JJ q o d zs m1) (hP : va_P G.1 vwCl (wQ G a q ++ (wO G a bb ae g az o ++ (wD G g d ++ (wQ G ae tq ++ (wZ G az zs ++ (wM G am m1 ++ [])))))) H) (hD : va_D A (wQ G a q ++ (wO G a bb ae g az o ++ (wD G g d ++ (wQ G ae tq ++ (wZ G az zs ++ (wM G am m1 ++ []))))))) (hS : va_S A s.heap H locs) (hl : lv_has ls 4 [(0, .ref sb), (1, .ref (bb 0)), (2, .ref (am 0)), (3, .int x3)]) : W p l e room_1 s m #[Value.ref sb] below meth c H locs 600000 7302249 Qf (F0 m 580 ls []) := by
  refine lv_aload_n hx hb dL_law_580 rfl (lv_at hl 1 rfl) ?_
  refine lv_aload_n hx hb dL_law_581 rfl (lv_at hl 0 rfl) ?_
  refine lv_iload_n hx hb dL_law_582 rfl (lv_at hl 3 rfl) ?_
  refine lv_iconst (v := (1 : Int32)) hx hb dL_law_583 (by decide) ?_
  refine lv_iadd hx hb dL_law_584 ?_
  refine va_sld hx hb hX hbl hbA hS (law_in (k := 1) (by omega) hL ex) dL_law_585 ?_
  refine lv_aload_n hx hb dL_law_586 rfl (lv_at hl 0 rfl) ?_
  refine lv_iload_n hx hb dL_law_587 rfl (lv_at hl 3 rfl) ?_
  refine lv_iconst (v := (2 : Int32)) hx hb dL_law_588 (by decide) ?_
  refine lv_iadd hx hb dL_law_589 ?_
  refine va_sld hx hb hX hbl hbA hS (law_in (k := 2) (by omega) hL ex) dL_law_590 ?_
  have h : wX9_leastTrucks (fun r q o d tq zs => wX10_leastTrucks (fun r2 m => r = r2 ∧ JJ q o d zs m) m1 (xs (Int32.toNatClampNeg (x3 + (1 : Int32)))) (xs (Int32.toNatClampNeg (x3 + (2 : Int32))))) q o d tq zs (xs (Int32.toNatClampNeg (x3 + (1 : Int32)))) (xs (Int32.toNatClampNeg (x3 + (2 : Int32)))) := j_leastTrucks hJ
  refine qc_vi (As := [.int (xs (Int32.toNatClampNeg (x3 + (1 : Int32)))), .int (xs (Int32.toNatClampNeg (x3 + (2 : Int32))))]) (rest := []) ⟨hx, hb, hml, hown, hts⟩ (mX9_leastTrucks l G _ _ a bb g ae az q o d tq zs _ (xs (Int32.toNatClampNeg (x3 + (1 : Int32)))) (xs (Int32.toNatClampNeg (x3 + (2 : Int32))))) (cwV 2 hts gL_law_X9_leastTrucks rfl rfl rfl (by decide +kernel) ⟨Nat.le_of_ble_eq_true rfl, Nat.le_of_ble_eq_true rfl⟩) hP hD hS hA hKn 18 9 rfl rfl rfl h rfl hl.1 rfl (Nat.le_of_ble_eq_true rfl) dL_law_591 ⟨Nat.le_of_ble_eq_true rfl, Nat.le_of_ble_eq_true rfl⟩ (fun r u H locs h hP hD hS => ?_)
  obtain ⟨q, o, d, tq, zs⟩ := u
  have hP : va_P G.1 vwCl (wQ G a q ++ (wO G a bb ae g az o ++ (wD G g d ++ (wQ G ae tq ++ (wZ G az zs ++ (wM G am m1 ++ [])))))) H := hP
  have hD : va_D A (wQ G a q ++ (wO G a bb ae g az o ++ (wD G g d ++ (wQ G ae tq ++ (wZ G az zs ++ (wM G am m1 ++ [])))))) := hD
  have h : wX10_leastTrucks (fun r2 m => r = r2 ∧ JJ q o d zs m) m1 (xs (Int32.toNatClampNeg (x3 + (1 : Int32)))) (xs (Int32.toNatClampNeg (x3 + (2 : Int32)))) := h
  refine lv_aload_n hx hb dL_law_594 rfl (lv_at hl 2 rfl) ?_
  refine lv_aload_n hx hb dL_law_595 rfl (lv_at hl 0 rfl) ?_
  refine lv_iload_n hx hb dL_law_596 rfl (lv_at hl 3 rfl) ?_
  refine lv_iconst (v := (1 : Int32)) hx hb dL_law_597 (by decide) ?_
  refine lv_iadd hx hb dL_law_598 ?_
  refine va_sld hx hb hX hbl hbA hS (law_in (k := 1) (by omega) hL ex) dL_law_599 ?_
  refine lv_aload_n hx hb dL_law_600 rfl (lv_at hl 0 rfl) ?_
  refine lv_iload_n hx hb dL_law_601 rfl (lv_at hl 3 rfl) ?_
  refine lv_iconst (v := (2 : Int32)) hx hb dL_law_602 (by decide) ?_
  refine lv_iadd hx hb dL_law_603 ?_
  refine va_sld hx hb hX hbl hbA hS (law_in (k := 2) (by omega) hL ex) dL_law_604 ?_
  obtain ⟨hP, hD⟩ := q_perm (((((((((List.perm_append_comm_assoc _ _ _).append_left _).trans (List.perm_append_comm_assoc _ _ _)).append_left _).trans (List.perm_append_comm_assoc _ _ _)).append_left _).trans (List.perm_append_comm_assoc _ _ _)).append_left _).trans (List.perm_append_comm_assoc _ _ _)) hP hD
  have hP : va_P G.1 vwCl (wM G am m1 ++ (wQ G a q ++ (wO G a bb ae g az o ++ (wD G g d ++ (wQ G ae tq ++ (wZ G az zs ++ [])))))) H := hP
  have hD : va_D A (wM G am m1 ++ (wQ G a q ++ (wO G a bb ae g az o ++ (wD G g d ++ (wQ G ae tq ++ (wZ G az zs ++ [])))))) := hD
  refine qc_vi (As := [.int (xs (Int32.toNatClampNeg (x3 + (1 : Int32)))), .int (xs (Int32.toNatClampNeg (x3 + (2 : Int32))))]) (rest := [.int r]) ⟨hx, hb, hml, hown, hts⟩ (mX10_leastTrucks l G _ _ am m1 _ (xs (Int32.toNatClampNeg (x3 + (1 : Int32)))) (xs (Int32.toNatClampNeg (x3 + (2 : Int32))))) (cwV 2 hts gL_law_X10_leastTrucks rfl rfl rfl (by decide +kernel) ⟨Nat.le_of_ble_eq_true rfl, Nat.le_of_ble_eq_true rfl⟩) hP hD hS hA hKn 0 10 rfl rfl rfl h rfl hl.1 rfl (Nat.le_of_ble_eq_true rfl) dL_law_605 ⟨Nat.le_of_ble_eq_true rfl, Nat.le_of_ble_eq_true rfl⟩ (fun r2 m1 H locs h hP hD hS => ?_)
  have hP : va_P G.1 vwCl (wM G am m1 ++ (wQ G a q ++ (wO G a bb ae g az o ++ (wD G g d ++ (wQ G ae tq ++ (wZ G az zs ++ [])))))) H := hP
  have hD : va_D A (wM G am m1 ++ (wQ G a q ++ (wO G a bb ae g az o ++ (wD G g d ++ (wQ G ae tq ++ (wZ G az zs ++ [])))))) := hD
  obtain ⟨hP, hD⟩ := q_perm ((((((((((List.perm_append_comm_assoc _ _ _).append_left _).trans (List.perm_append_comm_assoc _ _ _)).append_left _).trans (List.perm_append_comm_assoc _ _ _)).append_left _).trans (List.perm_append_comm_assoc _ _ _)).append_left _).trans (List.perm_append_comm_assoc _ _ _))).symm hP hD
  have hP : va_P G.1 vwCl (wQ G a q ++ (wO G a bb ae g az o ++ (wD G g d ++ (wQ G ae tq ++ (wZ G az zs ++ (wM G am m1 ++ [])))))) H := hP
  have hD : va_D A (wQ G a q ++ (wO G a bb ae g az o ++ (wD G g d ++ (wQ G ae tq ++ (wZ G az zs ++ (wM G am m1 ++ [])))))) := hD
  have h : r = r2 ∧ JJ q o d zs m1 := h
  exact lv_icmp_eq (tgt := 764) hx hb dL_law_608 (by decide) (fun c1 => hk q o d tq zs m1 H locs ls h.2 hP hD hS hl) (fun c1 => absurd h.1 c1)
set_option maxHeartbeats 4000000 in
set_option maxRecDepth 100000 in
theorem law_c15 {p : Program} {l : Launch} {e : Env} {s : State} {m : MethodId} {below : List Frame} {meth : Method} {c : Code} {sb L : Nat} {xs : Nat → Int32} {G : qG} {A : Nat → Prop} {a bb ae g am : Nat → Nat} {az : Nat → Nat → Nat} {Qf : State → Prop} (hx : p.tables.exec = Jvm.exec) (hb : c.code = code) (hml : c.maxLocals = 4) (hown : s.vm.findClass RL = some m.cls) (hts : ∀ w ∈ wsL_law, w.before #[Value.ref sb] s = true) (hX : va_X sb L xs s s.heap) (hbl : sb < s.heap.size) (hbA : ¬ A sb) (hA : ∀ q : Nat, s.heap.size ≤ q → A q) (hKn : qKn G A s s.heap) (hL : L ≤ 3584) {x3 : Int32} {i : Nat} (hi : i + 7 ≤ L) (ex : x3 = nI i) (hk : ∀ (q o d tq : qS) (zs : Nat → qS) (m1 : qS) (H : Heap) (locs : List Loc) (ls : Array Slot), JJ q o d zs m1 → va_P G.1 vwCl (wQ G a q ++ (wO G a bb ae g az o ++ (wD G g d ++ (wQ G ae tq ++ (wZ G az zs ++ (wM G am m1 ++ [])))))) H → va_D A (wQ G a q ++ (wO G a bb ae g az o ++ (wD G g d ++ (wQ G ae tq ++ (wZ G az zs ++ (wM G am m1 ++ [])))))) → va_S A s.heap H locs → lv_has ls 4 [(0, .ref sb), (1, .ref (bb 0)), (2, .ref (am 0)), (3, .int x3)] → W p l e room_1 s m #[Value.ref sb] below meth c H locs 600000 7302249 Qf (F0 m 764 ls [])) {q o d tq : qS} {zs : Nat → qS} {m1 : qS} {H : Heap} {locs : List Loc} {ls : Array Slot} (hJ : JJ q o d zs m1) (hP : va_P G.1 vwCl (wQ G a q ++ (wO G a bb ae g az o ++ (wD G g d ++ (wQ G ae tq ++ (wZ G az zs ++ (wM G am m1 ++ [])))))) H) (hD : va_D A (wQ G a q ++ (wO G a bb ae g az o ++ (wD G g d ++ (wQ G ae tq ++ (wZ G az zs ++ (wM G am m1 ++ []))))))) (hS : va_S A s.heap H locs) (hl : lv_has ls 4 [(0, .ref sb), (1, .ref (bb 0)), (2, .ref (am 0)), (3, .int x3)]) : W p l e room_1 s m #[Value.ref sb] below meth c H locs 600000 7302249 Qf (F0 m 613 ls []) := by
  refine lv_aload_n hx hb dL_law_613 rfl (lv_at hl 1 rfl) ?_
  refine lv_aload_n hx hb dL_law_614 rfl (lv_at hl 0 rfl) ?_
  refine lv_iload_n hx hb dL_law_615 rfl (lv_at hl 3 rfl) ?_
  refine lv_iconst (v := (1 : Int32)) hx hb dL_law_616 (by decide) ?_
  refine lv_iadd hx hb dL_law_617 ?_
  refine va_sld hx hb hX hbl hbA hS (law_in (k := 1) (by omega) hL ex) dL_law_618 ?_
  refine lv_i2l hx hb dL_law_619 rfl ?_
  refine lv_bipush (v := (32 : Int32)) hx hb dL_law_620 (by decide) ?_
  refine lv_lshl hx hb dL_law_622 rfl ?_
  refine lv_aload_n hx hb dL_law_623 rfl (lv_at hl 0 rfl) ?_
  refine lv_iload_n hx hb dL_law_624 rfl (lv_at hl 3 rfl) ?_
  refine lv_iconst (v := (2 : Int32)) hx hb dL_law_625 (by decide) ?_
  refine lv_iadd hx hb dL_law_626 ?_
  refine va_sld hx hb hX hbl hbA hS (law_in (k := 2) (by omega) hL ex) dL_law_627 ?_
  refine lv_i2l hx hb dL_law_628 rfl ?_
  refine lv_ldc2 (v := (4294967295 : Int64)) hx hb hown (hts _ lL_c78) dL_law_629 ?_
  refine lv_land hx hb dL_law_632 ?_
  refine lv_lor hx hb dL_law_633 ?_
  have h : wX9_put (fun r q o d tq zs => wX10_put (fun r2 m => r = r2 ∧ JJ q o d zs m) m1 ((((xs (Int32.toNatClampNeg (x3 + (1 : Int32)))).toInt64) <<< ((32 : Int32).toInt64 &&& 63)) ||| (((xs (Int32.toNatClampNeg (x3 + (2 : Int32)))).toInt64) &&& (4294967295 : Int64)))) q o d tq zs ((((xs (Int32.toNatClampNeg (x3 + (1 : Int32)))).toInt64) <<< ((32 : Int32).toInt64 &&& 63)) ||| (((xs (Int32.toNatClampNeg (x3 + (2 : Int32)))).toInt64) &&& (4294967295 : Int64))) := j_put hJ
  refine qc_vi (As := [.long ((((xs (Int32.toNatClampNeg (x3 + (1 : Int32)))).toInt64) <<< ((32 : Int32).toInt64 &&& 63)) ||| (((xs (Int32.toNatClampNeg (x3 + (2 : Int32)))).toInt64) &&& (4294967295 : Int64)))]) (rest := []) ⟨hx, hb, hml, hown, hts⟩ (mX9_put l G _ _ a bb g ae az q o d tq zs _ ((((xs (Int32.toNatClampNeg (x3 + (1 : Int32)))).toInt64) <<< ((32 : Int32).toInt64 &&& 63)) ||| (((xs (Int32.toNatClampNeg (x3 + (2 : Int32)))).toInt64) &&& (4294967295 : Int64)))) (cwV 1 hts gL_law_X9_put rfl rfl rfl (by decide +kernel) ⟨Nat.le_of_ble_eq_true rfl, Nat.le_of_ble_eq_true rfl⟩) hP hD hS hA hKn 18 9 rfl rfl rfl h rfl hl.1 rfl (Nat.le_of_ble_eq_true rfl) dL_law_634 ⟨Nat.le_of_ble_eq_true rfl, Nat.le_of_ble_eq_true rfl⟩ (fun r u H locs h hP hD hS => ?_)
  obtain ⟨q, o, d, tq, zs⟩ := u
  have hP : va_P G.1 vwCl (wQ G a q ++ (wO G a bb ae g az o ++ (wD G g d ++ (wQ G ae tq ++ (wZ G az zs ++ (wM G am m1 ++ [])))))) H := hP
  have hD : va_D A (wQ G a q ++ (wO G a bb ae g az o ++ (wD G g d ++ (wQ G ae tq ++ (wZ G az zs ++ (wM G am m1 ++ [])))))) := hD
  have h : wX10_put (fun r2 m => r = r2 ∧ JJ q o d zs m) m1 ((((xs (Int32.toNatClampNeg (x3 + (1 : Int32)))).toInt64) <<< ((32 : Int32).toInt64 &&& 63)) ||| (((xs (Int32.toNatClampNeg (x3 + (2 : Int32)))).toInt64) &&& (4294967295 : Int64))) := h
  refine lv_aload_n hx hb dL_law_637 rfl (lv_at hl 2 rfl) ?_
  refine lv_aload_n hx hb dL_law_638 rfl (lv_at hl 0 rfl) ?_
  refine lv_iload_n hx hb dL_law_639 rfl (lv_at hl 3 rfl) ?_
  refine lv_iconst (v := (1 : Int32)) hx hb dL_law_640 (by decide) ?_
  refine lv_iadd hx hb dL_law_641 ?_
  refine va_sld hx hb hX hbl hbA hS (law_in (k := 1) (by omega) hL ex) dL_law_642 ?_
  refine lv_i2l hx hb dL_law_643 rfl ?_
  refine lv_bipush (v := (32 : Int32)) hx hb dL_law_644 (by decide) ?_
  refine lv_lshl hx hb dL_law_646 rfl ?_
  refine lv_aload_n hx hb dL_law_647 rfl (lv_at hl 0 rfl) ?_
  refine lv_iload_n hx hb dL_law_648 rfl (lv_at hl 3 rfl) ?_
  refine lv_iconst (v := (2 : Int32)) hx hb dL_law_649 (by decide) ?_
  refine lv_iadd hx hb dL_law_650 ?_
  refine va_sld hx hb hX hbl hbA hS (law_in (k := 2) (by omega) hL ex) dL_law_651 ?_
  refine lv_i2l hx hb dL_law_652 rfl ?_
  refine lv_ldc2 (v := (4294967295 : Int64)) hx hb hown (hts _ lL_c78) dL_law_653 ?_
  refine lv_land hx hb dL_law_656 ?_
  refine lv_lor hx hb dL_law_657 ?_
  obtain ⟨hP, hD⟩ := q_perm (((((((((List.perm_append_comm_assoc _ _ _).append_left _).trans (List.perm_append_comm_assoc _ _ _)).append_left _).trans (List.perm_append_comm_assoc _ _ _)).append_left _).trans (List.perm_append_comm_assoc _ _ _)).append_left _).trans (List.perm_append_comm_assoc _ _ _)) hP hD
  have hP : va_P G.1 vwCl (wM G am m1 ++ (wQ G a q ++ (wO G a bb ae g az o ++ (wD G g d ++ (wQ G ae tq ++ (wZ G az zs ++ [])))))) H := hP
  have hD : va_D A (wM G am m1 ++ (wQ G a q ++ (wO G a bb ae g az o ++ (wD G g d ++ (wQ G ae tq ++ (wZ G az zs ++ [])))))) := hD
  refine qc_vi (As := [.long ((((xs (Int32.toNatClampNeg (x3 + (1 : Int32)))).toInt64) <<< ((32 : Int32).toInt64 &&& 63)) ||| (((xs (Int32.toNatClampNeg (x3 + (2 : Int32)))).toInt64) &&& (4294967295 : Int64)))]) (rest := [.int r]) ⟨hx, hb, hml, hown, hts⟩ (mX10_put l G _ _ am m1 _ ((((xs (Int32.toNatClampNeg (x3 + (1 : Int32)))).toInt64) <<< ((32 : Int32).toInt64 &&& 63)) ||| (((xs (Int32.toNatClampNeg (x3 + (2 : Int32)))).toInt64) &&& (4294967295 : Int64)))) (cwV 1 hts gL_law_X10_put rfl rfl rfl (by decide +kernel) ⟨Nat.le_of_ble_eq_true rfl, Nat.le_of_ble_eq_true rfl⟩) hP hD hS hA hKn 0 10 rfl rfl rfl h rfl hl.1 rfl (Nat.le_of_ble_eq_true rfl) dL_law_658 ⟨Nat.le_of_ble_eq_true rfl, Nat.le_of_ble_eq_true rfl⟩ (fun r2 m1 H locs h hP hD hS => ?_)
  have hP : va_P G.1 vwCl (wM G am m1 ++ (wQ G a q ++ (wO G a bb ae g az o ++ (wD G g d ++ (wQ G ae tq ++ (wZ G az zs ++ [])))))) H := hP
  have hD : va_D A (wM G am m1 ++ (wQ G a q ++ (wO G a bb ae g az o ++ (wD G g d ++ (wQ G ae tq ++ (wZ G az zs ++ [])))))) := hD
  obtain ⟨hP, hD⟩ := q_perm ((((((((((List.perm_append_comm_assoc _ _ _).append_left _).trans (List.perm_append_comm_assoc _ _ _)).append_left _).trans (List.perm_append_comm_assoc _ _ _)).append_left _).trans (List.perm_append_comm_assoc _ _ _)).append_left _).trans (List.perm_append_comm_assoc _ _ _))).symm hP hD
  have hP : va_P G.1 vwCl (wQ G a q ++ (wO G a bb ae g az o ++ (wD G g d ++ (wQ G ae tq ++ (wZ G az zs ++ (wM G am m1 ++ [])))))) H := hP
  have hD : va_D A (wQ G a q ++ (wO G a bb ae g az o ++ (wD G g d ++ (wQ G ae tq ++ (wZ G az zs ++ (wM G am m1 ++ [])))))) := hD
  have h : r = r2 ∧ JJ q o d zs m1 := h
  exact lv_icmp_eq (tgt := 764) hx hb dL_law_661 (by decide) (fun c1 => hk q o d tq zs m1 H locs ls h.2 hP hD hS hl) (fun c1 => absurd h.1 c1)
set_option maxHeartbeats 4000000 in
set_option maxRecDepth 100000 in
theorem law_c16 {p : Program} {l : Launch} {e : Env} {s : State} {m : MethodId} {below : List Frame} {meth : Method} {c : Code} {sb L : Nat} {xs : Nat → Int32} {G : qG} {A : Nat → Prop} {a bb ae g am : Nat → Nat} {az : Nat → Nat → Nat} {Qf : State → Prop} (hx : p.tables.exec = Jvm.exec) (hb : c.code = code) (hml : c.maxLocals = 4) (hown : s.vm.findClass RL = some m.cls) (hts : ∀ w ∈ wsL_law, w.before #[Value.ref sb] s = true) (hX : va_X sb L xs s s.heap) (hbl : sb < s.heap.size) (hbA : ¬ A sb) (hA : ∀ q : Nat, s.heap.size ≤ q → A q) (hKn : qKn G A s s.heap) (hL : L ≤ 3584) {x3 : Int32} {i : Nat} (hi : i + 7 ≤ L) (ex : x3 = nI i) (hk : ∀ (q o d tq : qS) (zs : Nat → qS) (m1 : qS) (H : Heap) (locs : List Loc) (ls : Array Slot), JJ q o d zs m1 → va_P G.1 vwCl (wQ G a q ++ (wO G a bb ae g az o ++ (wD G g d ++ (wQ G ae tq ++ (wZ G az zs ++ (wM G am m1 ++ [])))))) H → va_D A (wQ G a q ++ (wO G a bb ae g az o ++ (wD G g d ++ (wQ G ae tq ++ (wZ G az zs ++ (wM G am m1 ++ [])))))) → va_S A s.heap H locs → lv_has ls 4 [(0, .ref sb), (1, .ref (bb 0)), (2, .ref (am 0)), (3, .int x3)] → W p l e room_1 s m #[Value.ref sb] below meth c H locs 600000 7302249 Qf (F0 m 764 ls [])) {q o d tq : qS} {zs : Nat → qS} {m1 : qS} {H : Heap} {locs : List Loc} {ls : Array Slot} (hJ : JJ q o d zs m1) (hP : va_P G.1 vwCl (wQ G a q ++ (wO G a bb ae g az o ++ (wD G g d ++ (wQ G ae tq ++ (wZ G az zs ++ (wM G am m1 ++ [])))))) H) (hD : va_D A (wQ G a q ++ (wO G a bb ae g az o ++ (wD G g d ++ (wQ G ae tq ++ (wZ G az zs ++ (wM G am m1 ++ []))))))) (hS : va_S A s.heap H locs) (hl : lv_has ls 4 [(0, .ref sb), (1, .ref (bb 0)), (2, .ref (am 0)), (3, .int x3)]) : W p l e room_1 s m #[Value.ref sb] below meth c H locs 600000 7302249 Qf (F0 m 666 ls []) := by
  refine lv_aload_n hx hb dL_law_666 rfl (lv_at hl 1 rfl) ?_
  have h : wX9_wipe (fun r q o d tq zs => wX10_wipe (fun r2 m => r = r2 ∧ JJ q o d zs m) m1 ) q o d tq zs  := j_wipe hJ
  refine qc_vi (As := []) (rest := []) ⟨hx, hb, hml, hown, hts⟩ (mX9_wipe l G _ _ a bb g ae az q o d tq zs _ ) (cwV 0 hts gL_law_X9_wipe rfl rfl rfl (by decide +kernel) ⟨Nat.le_of_ble_eq_true rfl, Nat.le_of_ble_eq_true rfl⟩) hP hD hS hA hKn 18 9 rfl rfl rfl h rfl hl.1 rfl (Nat.le_of_ble_eq_true rfl) dL_law_667 ⟨Nat.le_of_ble_eq_true rfl, Nat.le_of_ble_eq_true rfl⟩ (fun r u H locs h hP hD hS => ?_)
  obtain ⟨q, o, d, tq, zs⟩ := u
  have hP : va_P G.1 vwCl (wQ G a q ++ (wO G a bb ae g az o ++ (wD G g d ++ (wQ G ae tq ++ (wZ G az zs ++ (wM G am m1 ++ [])))))) H := hP
  have hD : va_D A (wQ G a q ++ (wO G a bb ae g az o ++ (wD G g d ++ (wQ G ae tq ++ (wZ G az zs ++ (wM G am m1 ++ [])))))) := hD
  have h : wX10_wipe (fun r2 m => r = r2 ∧ JJ q o d zs m) m1  := h
  refine lv_aload_n hx hb dL_law_670 rfl (lv_at hl 2 rfl) ?_
  obtain ⟨hP, hD⟩ := q_perm (((((((((List.perm_append_comm_assoc _ _ _).append_left _).trans (List.perm_append_comm_assoc _ _ _)).append_left _).trans (List.perm_append_comm_assoc _ _ _)).append_left _).trans (List.perm_append_comm_assoc _ _ _)).append_left _).trans (List.perm_append_comm_assoc _ _ _)) hP hD
  have hP : va_P G.1 vwCl (wM G am m1 ++ (wQ G a q ++ (wO G a bb ae g az o ++ (wD G g d ++ (wQ G ae tq ++ (wZ G az zs ++ [])))))) H := hP
  have hD : va_D A (wM G am m1 ++ (wQ G a q ++ (wO G a bb ae g az o ++ (wD G g d ++ (wQ G ae tq ++ (wZ G az zs ++ [])))))) := hD
  refine qc_vi (As := []) (rest := [.int r]) ⟨hx, hb, hml, hown, hts⟩ (mX10_wipe l G _ _ am m1 _ ) (cwV 0 hts gL_law_X10_wipe rfl rfl rfl (by decide +kernel) ⟨Nat.le_of_ble_eq_true rfl, Nat.le_of_ble_eq_true rfl⟩) hP hD hS hA hKn 0 10 rfl rfl rfl h rfl hl.1 rfl (Nat.le_of_ble_eq_true rfl) dL_law_671 ⟨Nat.le_of_ble_eq_true rfl, Nat.le_of_ble_eq_true rfl⟩ (fun r2 m1 H locs h hP hD hS => ?_)
  have hP : va_P G.1 vwCl (wM G am m1 ++ (wQ G a q ++ (wO G a bb ae g az o ++ (wD G g d ++ (wQ G ae tq ++ (wZ G az zs ++ [])))))) H := hP
  have hD : va_D A (wM G am m1 ++ (wQ G a q ++ (wO G a bb ae g az o ++ (wD G g d ++ (wQ G ae tq ++ (wZ G az zs ++ [])))))) := hD
  obtain ⟨hP, hD⟩ := q_perm ((((((((((List.perm_append_comm_assoc _ _ _).append_left _).trans (List.perm_append_comm_assoc _ _ _)).append_left _).trans (List.perm_append_comm_assoc _ _ _)).append_left _).trans (List.perm_append_comm_assoc _ _ _)).append_left _).trans (List.perm_append_comm_assoc _ _ _))).symm hP hD
  have hP : va_P G.1 vwCl (wQ G a q ++ (wO G a bb ae g az o ++ (wD G g d ++ (wQ G ae tq ++ (wZ G az zs ++ (wM G am m1 ++ [])))))) H := hP
  have hD : va_D A (wQ G a q ++ (wO G a bb ae g az o ++ (wD G g d ++ (wQ G ae tq ++ (wZ G az zs ++ (wM G am m1 ++ [])))))) := hD
  have h : r = r2 ∧ JJ q o d zs m1 := h
  exact lv_icmp_eq (tgt := 764) hx hb dL_law_674 (by decide) (fun c1 => hk q o d tq zs m1 H locs ls h.2 hP hD hS hl) (fun c1 => absurd h.1 c1)
set_option maxHeartbeats 4000000 in
set_option maxRecDepth 100000 in
theorem law_c17 {p : Program} {l : Launch} {e : Env} {s : State} {m : MethodId} {below : List Frame} {meth : Method} {c : Code} {sb L : Nat} {xs : Nat → Int32} {G : qG} {A : Nat → Prop} {a bb ae g am : Nat → Nat} {az : Nat → Nat → Nat} {Qf : State → Prop} (hx : p.tables.exec = Jvm.exec) (hb : c.code = code) (hml : c.maxLocals = 4) (hown : s.vm.findClass RL = some m.cls) (hts : ∀ w ∈ wsL_law, w.before #[Value.ref sb] s = true) (hX : va_X sb L xs s s.heap) (hbl : sb < s.heap.size) (hbA : ¬ A sb) (hA : ∀ q : Nat, s.heap.size ≤ q → A q) (hKn : qKn G A s s.heap) (hL : L ≤ 3584) {x3 : Int32} {i : Nat} (hi : i + 7 ≤ L) (ex : x3 = nI i) (hk : ∀ (q o d tq : qS) (zs : Nat → qS) (m1 : qS) (H : Heap) (locs : List Loc) (ls : Array Slot), JJ q o d zs m1 → va_P G.1 vwCl (wQ G a q ++ (wO G a bb ae g az o ++ (wD G g d ++ (wQ G ae tq ++ (wZ G az zs ++ (wM G am m1 ++ [])))))) H → va_D A (wQ G a q ++ (wO G a bb ae g az o ++ (wD G g d ++ (wQ G ae tq ++ (wZ G az zs ++ (wM G am m1 ++ [])))))) → va_S A s.heap H locs → lv_has ls 4 [(0, .ref sb), (1, .ref (bb 0)), (2, .ref (am 0)), (3, .int x3)] → W p l e room_1 s m #[Value.ref sb] below meth c H locs 600000 7302249 Qf (F0 m 764 ls [])) {q o d tq : qS} {zs : Nat → qS} {m1 : qS} {H : Heap} {locs : List Loc} {ls : Array Slot} (hJ : JJ q o d zs m1) (hP : va_P G.1 vwCl (wQ G a q ++ (wO G a bb ae g az o ++ (wD G g d ++ (wQ G ae tq ++ (wZ G az zs ++ (wM G am m1 ++ [])))))) H) (hD : va_D A (wQ G a q ++ (wO G a bb ae g az o ++ (wD G g d ++ (wQ G ae tq ++ (wZ G az zs ++ (wM G am m1 ++ []))))))) (hS : va_S A s.heap H locs) (hl : lv_has ls 4 [(0, .ref sb), (1, .ref (bb 0)), (2, .ref (am 0)), (3, .int x3)]) : W p l e room_1 s m #[Value.ref sb] below meth c H locs 600000 7302249 Qf (F0 m 679 ls []) := by
  refine lv_aload_n hx hb dL_law_679 rfl (lv_at hl 1 rfl) ?_
  have h : wX9_fault (fun r q o d tq zs => wX10_fault (fun r2 m => r = r2 ∧ JJ q o d zs m) m1 ) q o d tq zs  := j_fault hJ
  refine qc_vi (As := []) (rest := []) ⟨hx, hb, hml, hown, hts⟩ (mX9_fault l G _ _ a bb g ae az q o d tq zs _ ) (cwV 0 hts gL_law_X9_fault rfl rfl rfl (by decide +kernel) ⟨Nat.le_of_ble_eq_true rfl, Nat.le_of_ble_eq_true rfl⟩) hP hD hS hA hKn 18 9 rfl rfl rfl h rfl hl.1 rfl (Nat.le_of_ble_eq_true rfl) dL_law_680 ⟨Nat.le_of_ble_eq_true rfl, Nat.le_of_ble_eq_true rfl⟩ (fun r u H locs h hP hD hS => ?_)
  obtain ⟨q, o, d, tq, zs⟩ := u
  have hP : va_P G.1 vwCl (wQ G a q ++ (wO G a bb ae g az o ++ (wD G g d ++ (wQ G ae tq ++ (wZ G az zs ++ (wM G am m1 ++ [])))))) H := hP
  have hD : va_D A (wQ G a q ++ (wO G a bb ae g az o ++ (wD G g d ++ (wQ G ae tq ++ (wZ G az zs ++ (wM G am m1 ++ [])))))) := hD
  have h : wX10_fault (fun r2 m => r = r2 ∧ JJ q o d zs m) m1  := h
  refine lv_aload_n hx hb dL_law_683 rfl (lv_at hl 2 rfl) ?_
  obtain ⟨hP, hD⟩ := q_perm (((((((((List.perm_append_comm_assoc _ _ _).append_left _).trans (List.perm_append_comm_assoc _ _ _)).append_left _).trans (List.perm_append_comm_assoc _ _ _)).append_left _).trans (List.perm_append_comm_assoc _ _ _)).append_left _).trans (List.perm_append_comm_assoc _ _ _)) hP hD
  have hP : va_P G.1 vwCl (wM G am m1 ++ (wQ G a q ++ (wO G a bb ae g az o ++ (wD G g d ++ (wQ G ae tq ++ (wZ G az zs ++ [])))))) H := hP
  have hD : va_D A (wM G am m1 ++ (wQ G a q ++ (wO G a bb ae g az o ++ (wD G g d ++ (wQ G ae tq ++ (wZ G az zs ++ [])))))) := hD
  refine qc_vi (As := []) (rest := [.int r]) ⟨hx, hb, hml, hown, hts⟩ (mX10_fault l G _ _ am m1 _ ) (cwV 0 hts gL_law_X10_fault rfl rfl rfl (by decide +kernel) ⟨Nat.le_of_ble_eq_true rfl, Nat.le_of_ble_eq_true rfl⟩) hP hD hS hA hKn 0 10 rfl rfl rfl h rfl hl.1 rfl (Nat.le_of_ble_eq_true rfl) dL_law_684 ⟨Nat.le_of_ble_eq_true rfl, Nat.le_of_ble_eq_true rfl⟩ (fun r2 m1 H locs h hP hD hS => ?_)
  have hP : va_P G.1 vwCl (wM G am m1 ++ (wQ G a q ++ (wO G a bb ae g az o ++ (wD G g d ++ (wQ G ae tq ++ (wZ G az zs ++ [])))))) H := hP
  have hD : va_D A (wM G am m1 ++ (wQ G a q ++ (wO G a bb ae g az o ++ (wD G g d ++ (wQ G ae tq ++ (wZ G az zs ++ [])))))) := hD
  obtain ⟨hP, hD⟩ := q_perm ((((((((((List.perm_append_comm_assoc _ _ _).append_left _).trans (List.perm_append_comm_assoc _ _ _)).append_left _).trans (List.perm_append_comm_assoc _ _ _)).append_left _).trans (List.perm_append_comm_assoc _ _ _)).append_left _).trans (List.perm_append_comm_assoc _ _ _))).symm hP hD
  have hP : va_P G.1 vwCl (wQ G a q ++ (wO G a bb ae g az o ++ (wD G g d ++ (wQ G ae tq ++ (wZ G az zs ++ (wM G am m1 ++ [])))))) H := hP
  have hD : va_D A (wQ G a q ++ (wO G a bb ae g az o ++ (wD G g d ++ (wQ G ae tq ++ (wZ G az zs ++ (wM G am m1 ++ [])))))) := hD
  have h : r = r2 ∧ JJ q o d zs m1 := h
  exact lv_icmp_eq (tgt := 764) hx hb dL_law_687 (by decide) (fun c1 => hk q o d tq zs m1 H locs ls h.2 hP hD hS hl) (fun c1 => absurd h.1 c1)
set_option maxHeartbeats 4000000 in
set_option maxRecDepth 100000 in
theorem law_c18 {p : Program} {l : Launch} {e : Env} {s : State} {m : MethodId} {below : List Frame} {meth : Method} {c : Code} {sb L : Nat} {xs : Nat → Int32} {G : qG} {A : Nat → Prop} {a bb ae g am : Nat → Nat} {az : Nat → Nat → Nat} {Qf : State → Prop} (hx : p.tables.exec = Jvm.exec) (hb : c.code = code) (hml : c.maxLocals = 4) (hown : s.vm.findClass RL = some m.cls) (hts : ∀ w ∈ wsL_law, w.before #[Value.ref sb] s = true) (hX : va_X sb L xs s s.heap) (hbl : sb < s.heap.size) (hbA : ¬ A sb) (hA : ∀ q : Nat, s.heap.size ≤ q → A q) (hKn : qKn G A s s.heap) (hL : L ≤ 3584) {x3 : Int32} {i : Nat} (hi : i + 7 ≤ L) (ex : x3 = nI i) (hk : ∀ (q o d tq : qS) (zs : Nat → qS) (m1 : qS) (H : Heap) (locs : List Loc) (ls : Array Slot), JJ q o d zs m1 → va_P G.1 vwCl (wQ G a q ++ (wO G a bb ae g az o ++ (wD G g d ++ (wQ G ae tq ++ (wZ G az zs ++ (wM G am m1 ++ [])))))) H → va_D A (wQ G a q ++ (wO G a bb ae g az o ++ (wD G g d ++ (wQ G ae tq ++ (wZ G az zs ++ (wM G am m1 ++ [])))))) → va_S A s.heap H locs → lv_has ls 4 [(0, .ref sb), (1, .ref (bb 0)), (2, .ref (am 0)), (3, .int x3)] → W p l e room_1 s m #[Value.ref sb] below meth c H locs 600000 7302249 Qf (F0 m 764 ls [])) {q o d tq : qS} {zs : Nat → qS} {m1 : qS} {H : Heap} {locs : List Loc} {ls : Array Slot} (hJ : JJ q o d zs m1) (hP : va_P G.1 vwCl (wQ G a q ++ (wO G a bb ae g az o ++ (wD G g d ++ (wQ G ae tq ++ (wZ G az zs ++ (wM G am m1 ++ [])))))) H) (hD : va_D A (wQ G a q ++ (wO G a bb ae g az o ++ (wD G g d ++ (wQ G ae tq ++ (wZ G az zs ++ (wM G am m1 ++ []))))))) (hS : va_S A s.heap H locs) (hl : lv_has ls 4 [(0, .ref sb), (1, .ref (bb 0)), (2, .ref (am 0)), (3, .int x3)]) : W p l e room_1 s m #[Value.ref sb] below meth c H locs 600000 7302249 Qf (F0 m 692 ls []) := by
  refine lv_aload_n hx hb dL_law_692 rfl (lv_at hl 1 rfl) ?_
  have h : wX9_carryOut (fun r q o d tq zs => wX10_carryOut (fun r2 m => r = r2 ∧ JJ q o d zs m) m1 ) q o d tq zs  := j_carryOut hJ
  refine qc_vi (As := []) (rest := []) ⟨hx, hb, hml, hown, hts⟩ (mX9_carryOut l G _ _ a bb g ae az q o d tq zs _ ) (cwV 0 hts gL_law_X9_carryOut rfl rfl rfl (by decide +kernel) ⟨Nat.le_of_ble_eq_true rfl, Nat.le_of_ble_eq_true rfl⟩) hP hD hS hA hKn 18 9 rfl rfl rfl h rfl hl.1 rfl (Nat.le_of_ble_eq_true rfl) dL_law_693 ⟨Nat.le_of_ble_eq_true rfl, Nat.le_of_ble_eq_true rfl⟩ (fun r u H locs h hP hD hS => ?_)
  obtain ⟨q, o, d, tq, zs⟩ := u
  have hP : va_P G.1 vwCl (wQ G a q ++ (wO G a bb ae g az o ++ (wD G g d ++ (wQ G ae tq ++ (wZ G az zs ++ (wM G am m1 ++ [])))))) H := hP
  have hD : va_D A (wQ G a q ++ (wO G a bb ae g az o ++ (wD G g d ++ (wQ G ae tq ++ (wZ G az zs ++ (wM G am m1 ++ [])))))) := hD
  have h : wX10_carryOut (fun r2 m => r = r2 ∧ JJ q o d zs m) m1  := h
  refine lv_aload_n hx hb dL_law_696 rfl (lv_at hl 2 rfl) ?_
  obtain ⟨hP, hD⟩ := q_perm (((((((((List.perm_append_comm_assoc _ _ _).append_left _).trans (List.perm_append_comm_assoc _ _ _)).append_left _).trans (List.perm_append_comm_assoc _ _ _)).append_left _).trans (List.perm_append_comm_assoc _ _ _)).append_left _).trans (List.perm_append_comm_assoc _ _ _)) hP hD
  have hP : va_P G.1 vwCl (wM G am m1 ++ (wQ G a q ++ (wO G a bb ae g az o ++ (wD G g d ++ (wQ G ae tq ++ (wZ G az zs ++ [])))))) H := hP
  have hD : va_D A (wM G am m1 ++ (wQ G a q ++ (wO G a bb ae g az o ++ (wD G g d ++ (wQ G ae tq ++ (wZ G az zs ++ [])))))) := hD
  refine qc_vi (As := []) (rest := [.int r]) ⟨hx, hb, hml, hown, hts⟩ (mX10_carryOut l G _ _ am m1 _ ) (cwV 0 hts gL_law_X10_carryOut rfl rfl rfl (by decide +kernel) ⟨Nat.le_of_ble_eq_true rfl, Nat.le_of_ble_eq_true rfl⟩) hP hD hS hA hKn 0 10 rfl rfl rfl h rfl hl.1 rfl (Nat.le_of_ble_eq_true rfl) dL_law_697 ⟨Nat.le_of_ble_eq_true rfl, Nat.le_of_ble_eq_true rfl⟩ (fun r2 m1 H locs h hP hD hS => ?_)
  have hP : va_P G.1 vwCl (wM G am m1 ++ (wQ G a q ++ (wO G a bb ae g az o ++ (wD G g d ++ (wQ G ae tq ++ (wZ G az zs ++ [])))))) H := hP
  have hD : va_D A (wM G am m1 ++ (wQ G a q ++ (wO G a bb ae g az o ++ (wD G g d ++ (wQ G ae tq ++ (wZ G az zs ++ [])))))) := hD
  obtain ⟨hP, hD⟩ := q_perm ((((((((((List.perm_append_comm_assoc _ _ _).append_left _).trans (List.perm_append_comm_assoc _ _ _)).append_left _).trans (List.perm_append_comm_assoc _ _ _)).append_left _).trans (List.perm_append_comm_assoc _ _ _)).append_left _).trans (List.perm_append_comm_assoc _ _ _))).symm hP hD
  have hP : va_P G.1 vwCl (wQ G a q ++ (wO G a bb ae g az o ++ (wD G g d ++ (wQ G ae tq ++ (wZ G az zs ++ (wM G am m1 ++ [])))))) H := hP
  have hD : va_D A (wQ G a q ++ (wO G a bb ae g az o ++ (wD G g d ++ (wQ G ae tq ++ (wZ G az zs ++ (wM G am m1 ++ [])))))) := hD
  have h : r = r2 ∧ JJ q o d zs m1 := h
  exact lv_icmp_eq (tgt := 764) hx hb dL_law_700 (by decide) (fun c1 => hk q o d tq zs m1 H locs ls h.2 hP hD hS hl) (fun c1 => absurd h.1 c1)
set_option maxHeartbeats 4000000 in
set_option maxRecDepth 100000 in
theorem law_c19 {p : Program} {l : Launch} {e : Env} {s : State} {m : MethodId} {below : List Frame} {meth : Method} {c : Code} {sb L : Nat} {xs : Nat → Int32} {G : qG} {A : Nat → Prop} {a bb ae g am : Nat → Nat} {az : Nat → Nat → Nat} {Qf : State → Prop} (hx : p.tables.exec = Jvm.exec) (hb : c.code = code) (hml : c.maxLocals = 4) (hown : s.vm.findClass RL = some m.cls) (hts : ∀ w ∈ wsL_law, w.before #[Value.ref sb] s = true) (hX : va_X sb L xs s s.heap) (hbl : sb < s.heap.size) (hbA : ¬ A sb) (hA : ∀ q : Nat, s.heap.size ≤ q → A q) (hKn : qKn G A s s.heap) (hL : L ≤ 3584) {x3 : Int32} {i : Nat} (hi : i + 7 ≤ L) (ex : x3 = nI i) (hk : ∀ (q o d tq : qS) (zs : Nat → qS) (m1 : qS) (H : Heap) (locs : List Loc) (ls : Array Slot), JJ q o d zs m1 → va_P G.1 vwCl (wQ G a q ++ (wO G a bb ae g az o ++ (wD G g d ++ (wQ G ae tq ++ (wZ G az zs ++ (wM G am m1 ++ [])))))) H → va_D A (wQ G a q ++ (wO G a bb ae g az o ++ (wD G g d ++ (wQ G ae tq ++ (wZ G az zs ++ (wM G am m1 ++ [])))))) → va_S A s.heap H locs → lv_has ls 4 [(0, .ref sb), (1, .ref (bb 0)), (2, .ref (am 0)), (3, .int x3)] → W p l e room_1 s m #[Value.ref sb] below meth c H locs 600000 7302249 Qf (F0 m 764 ls [])) {q o d tq : qS} {zs : Nat → qS} {m1 : qS} {H : Heap} {locs : List Loc} {ls : Array Slot} (hJ : JJ q o d zs m1) (hP : va_P G.1 vwCl (wQ G a q ++ (wO G a bb ae g az o ++ (wD G g d ++ (wQ G ae tq ++ (wZ G az zs ++ (wM G am m1 ++ [])))))) H) (hD : va_D A (wQ G a q ++ (wO G a bb ae g az o ++ (wD G g d ++ (wQ G ae tq ++ (wZ G az zs ++ (wM G am m1 ++ []))))))) (hS : va_S A s.heap H locs) (hl : lv_has ls 4 [(0, .ref sb), (1, .ref (bb 0)), (2, .ref (am 0)), (3, .int x3)]) : W p l e room_1 s m #[Value.ref sb] below meth c H locs 600000 7302249 Qf (F0 m 705 ls []) := by
  refine lv_aload_n hx hb dL_law_705 rfl (lv_at hl 1 rfl) ?_
  have h : wX9_undo (fun r q o d tq zs => wX10_undo (fun r2 m => r = r2 ∧ JJ q o d zs m) m1 ) q o d tq zs  := j_undo hJ
  refine qc_vi (As := []) (rest := []) ⟨hx, hb, hml, hown, hts⟩ (mX9_undo l G _ _ a bb g ae az q o d tq zs _ ) (cwV 0 hts gL_law_X9_undo rfl rfl rfl (by decide +kernel) ⟨Nat.le_of_ble_eq_true rfl, Nat.le_of_ble_eq_true rfl⟩) hP hD hS hA hKn 18 9 rfl rfl rfl h rfl hl.1 rfl (Nat.le_of_ble_eq_true rfl) dL_law_706 ⟨Nat.le_of_ble_eq_true rfl, Nat.le_of_ble_eq_true rfl⟩ (fun r u H locs h hP hD hS => ?_)
  obtain ⟨q, o, d, tq, zs⟩ := u
  have hP : va_P G.1 vwCl (wQ G a q ++ (wO G a bb ae g az o ++ (wD G g d ++ (wQ G ae tq ++ (wZ G az zs ++ (wM G am m1 ++ [])))))) H := hP
  have hD : va_D A (wQ G a q ++ (wO G a bb ae g az o ++ (wD G g d ++ (wQ G ae tq ++ (wZ G az zs ++ (wM G am m1 ++ [])))))) := hD
  have h : wX10_undo (fun r2 m => r = r2 ∧ JJ q o d zs m) m1  := h
  refine lv_aload_n hx hb dL_law_709 rfl (lv_at hl 2 rfl) ?_
  obtain ⟨hP, hD⟩ := q_perm (((((((((List.perm_append_comm_assoc _ _ _).append_left _).trans (List.perm_append_comm_assoc _ _ _)).append_left _).trans (List.perm_append_comm_assoc _ _ _)).append_left _).trans (List.perm_append_comm_assoc _ _ _)).append_left _).trans (List.perm_append_comm_assoc _ _ _)) hP hD
  have hP : va_P G.1 vwCl (wM G am m1 ++ (wQ G a q ++ (wO G a bb ae g az o ++ (wD G g d ++ (wQ G ae tq ++ (wZ G az zs ++ [])))))) H := hP
  have hD : va_D A (wM G am m1 ++ (wQ G a q ++ (wO G a bb ae g az o ++ (wD G g d ++ (wQ G ae tq ++ (wZ G az zs ++ [])))))) := hD
  refine qc_vi (As := []) (rest := [.int r]) ⟨hx, hb, hml, hown, hts⟩ (mX10_undo l G _ _ am m1 _ ) (cwV 0 hts gL_law_X10_undo rfl rfl rfl (by decide +kernel) ⟨Nat.le_of_ble_eq_true rfl, Nat.le_of_ble_eq_true rfl⟩) hP hD hS hA hKn 0 10 rfl rfl rfl h rfl hl.1 rfl (Nat.le_of_ble_eq_true rfl) dL_law_710 ⟨Nat.le_of_ble_eq_true rfl, Nat.le_of_ble_eq_true rfl⟩ (fun r2 m1 H locs h hP hD hS => ?_)
  have hP : va_P G.1 vwCl (wM G am m1 ++ (wQ G a q ++ (wO G a bb ae g az o ++ (wD G g d ++ (wQ G ae tq ++ (wZ G az zs ++ [])))))) H := hP
  have hD : va_D A (wM G am m1 ++ (wQ G a q ++ (wO G a bb ae g az o ++ (wD G g d ++ (wQ G ae tq ++ (wZ G az zs ++ [])))))) := hD
  obtain ⟨hP, hD⟩ := q_perm ((((((((((List.perm_append_comm_assoc _ _ _).append_left _).trans (List.perm_append_comm_assoc _ _ _)).append_left _).trans (List.perm_append_comm_assoc _ _ _)).append_left _).trans (List.perm_append_comm_assoc _ _ _)).append_left _).trans (List.perm_append_comm_assoc _ _ _))).symm hP hD
  have hP : va_P G.1 vwCl (wQ G a q ++ (wO G a bb ae g az o ++ (wD G g d ++ (wQ G ae tq ++ (wZ G az zs ++ (wM G am m1 ++ [])))))) H := hP
  have hD : va_D A (wQ G a q ++ (wO G a bb ae g az o ++ (wD G g d ++ (wQ G ae tq ++ (wZ G az zs ++ (wM G am m1 ++ [])))))) := hD
  have h : r = r2 ∧ JJ q o d zs m1 := h
  exact lv_icmp_eq (tgt := 764) hx hb dL_law_713 (by decide) (fun c1 => hk q o d tq zs m1 H locs ls h.2 hP hD hS hl) (fun c1 => absurd h.1 c1)
set_option maxHeartbeats 4000000 in
set_option maxRecDepth 100000 in
theorem law_c20 {p : Program} {l : Launch} {e : Env} {s : State} {m : MethodId} {below : List Frame} {meth : Method} {c : Code} {sb L : Nat} {xs : Nat → Int32} {G : qG} {A : Nat → Prop} {a bb ae g am : Nat → Nat} {az : Nat → Nat → Nat} {Qf : State → Prop} (hx : p.tables.exec = Jvm.exec) (hb : c.code = code) (hml : c.maxLocals = 4) (hown : s.vm.findClass RL = some m.cls) (hts : ∀ w ∈ wsL_law, w.before #[Value.ref sb] s = true) (hX : va_X sb L xs s s.heap) (hbl : sb < s.heap.size) (hbA : ¬ A sb) (hA : ∀ q : Nat, s.heap.size ≤ q → A q) (hKn : qKn G A s s.heap) (hL : L ≤ 3584) {x3 : Int32} {i : Nat} (hi : i + 7 ≤ L) (ex : x3 = nI i) (hk : ∀ (q o d tq : qS) (zs : Nat → qS) (m1 : qS) (H : Heap) (locs : List Loc) (ls : Array Slot), JJ q o d zs m1 → va_P G.1 vwCl (wQ G a q ++ (wO G a bb ae g az o ++ (wD G g d ++ (wQ G ae tq ++ (wZ G az zs ++ (wM G am m1 ++ [])))))) H → va_D A (wQ G a q ++ (wO G a bb ae g az o ++ (wD G g d ++ (wQ G ae tq ++ (wZ G az zs ++ (wM G am m1 ++ [])))))) → va_S A s.heap H locs → lv_has ls 4 [(0, .ref sb), (1, .ref (bb 0)), (2, .ref (am 0)), (3, .int x3)] → W p l e room_1 s m #[Value.ref sb] below meth c H locs 600000 7302249 Qf (F0 m 764 ls [])) {q o d tq : qS} {zs : Nat → qS} {m1 : qS} {H : Heap} {locs : List Loc} {ls : Array Slot} (hJ : JJ q o d zs m1) (hP : va_P G.1 vwCl (wQ G a q ++ (wO G a bb ae g az o ++ (wD G g d ++ (wQ G ae tq ++ (wZ G az zs ++ (wM G am m1 ++ [])))))) H) (hD : va_D A (wQ G a q ++ (wO G a bb ae g az o ++ (wD G g d ++ (wQ G ae tq ++ (wZ G az zs ++ (wM G am m1 ++ []))))))) (hS : va_S A s.heap H locs) (hl : lv_has ls 4 [(0, .ref sb), (1, .ref (bb 0)), (2, .ref (am 0)), (3, .int x3)]) : W p l e room_1 s m #[Value.ref sb] below meth c H locs 600000 7302249 Qf (F0 m 718 ls []) := by
  refine lv_aload_n hx hb dL_law_718 rfl (lv_at hl 1 rfl) ?_
  refine lv_aload_n hx hb dL_law_719 rfl (lv_at hl 0 rfl) ?_
  refine lv_iload_n hx hb dL_law_720 rfl (lv_at hl 3 rfl) ?_
  refine lv_iconst (v := (1 : Int32)) hx hb dL_law_721 (by decide) ?_
  refine lv_iadd hx hb dL_law_722 ?_
  refine va_sld hx hb hX hbl hbA hS (law_in (k := 1) (by omega) hL ex) dL_law_723 ?_
  have h : wX9_save (fun r q o d tq zs => wX10_save (fun r2 m => r = r2 ∧ JJ q o d zs m) m1 (xs (Int32.toNatClampNeg (x3 + (1 : Int32))))) q o d tq zs (xs (Int32.toNatClampNeg (x3 + (1 : Int32)))) := j_save hJ
  refine qc_vi (As := [.int (xs (Int32.toNatClampNeg (x3 + (1 : Int32))))]) (rest := []) ⟨hx, hb, hml, hown, hts⟩ (mX9_save l G _ _ a bb g ae az q o d tq zs _ (xs (Int32.toNatClampNeg (x3 + (1 : Int32))))) (cwV 1 hts gL_law_X9_save rfl rfl rfl (by decide +kernel) ⟨Nat.le_of_ble_eq_true rfl, Nat.le_of_ble_eq_true rfl⟩) hP hD hS hA hKn 18 9 rfl rfl rfl h rfl hl.1 rfl (Nat.le_of_ble_eq_true rfl) dL_law_724 ⟨Nat.le_of_ble_eq_true rfl, Nat.le_of_ble_eq_true rfl⟩ (fun r u H locs h hP hD hS => ?_)
  obtain ⟨q, o, d, tq, zs⟩ := u
  have hP : va_P G.1 vwCl (wQ G a q ++ (wO G a bb ae g az o ++ (wD G g d ++ (wQ G ae tq ++ (wZ G az zs ++ (wM G am m1 ++ [])))))) H := hP
  have hD : va_D A (wQ G a q ++ (wO G a bb ae g az o ++ (wD G g d ++ (wQ G ae tq ++ (wZ G az zs ++ (wM G am m1 ++ [])))))) := hD
  have h : wX10_save (fun r2 m => r = r2 ∧ JJ q o d zs m) m1 (xs (Int32.toNatClampNeg (x3 + (1 : Int32)))) := h
  refine lv_aload_n hx hb dL_law_727 rfl (lv_at hl 2 rfl) ?_
  refine lv_aload_n hx hb dL_law_728 rfl (lv_at hl 0 rfl) ?_
  refine lv_iload_n hx hb dL_law_729 rfl (lv_at hl 3 rfl) ?_
  refine lv_iconst (v := (1 : Int32)) hx hb dL_law_730 (by decide) ?_
  refine lv_iadd hx hb dL_law_731 ?_
  refine va_sld hx hb hX hbl hbA hS (law_in (k := 1) (by omega) hL ex) dL_law_732 ?_
  obtain ⟨hP, hD⟩ := q_perm (((((((((List.perm_append_comm_assoc _ _ _).append_left _).trans (List.perm_append_comm_assoc _ _ _)).append_left _).trans (List.perm_append_comm_assoc _ _ _)).append_left _).trans (List.perm_append_comm_assoc _ _ _)).append_left _).trans (List.perm_append_comm_assoc _ _ _)) hP hD
  have hP : va_P G.1 vwCl (wM G am m1 ++ (wQ G a q ++ (wO G a bb ae g az o ++ (wD G g d ++ (wQ G ae tq ++ (wZ G az zs ++ [])))))) H := hP
  have hD : va_D A (wM G am m1 ++ (wQ G a q ++ (wO G a bb ae g az o ++ (wD G g d ++ (wQ G ae tq ++ (wZ G az zs ++ [])))))) := hD
  refine qc_vi (As := [.int (xs (Int32.toNatClampNeg (x3 + (1 : Int32))))]) (rest := [.int r]) ⟨hx, hb, hml, hown, hts⟩ (mX10_save l G _ _ am m1 _ (xs (Int32.toNatClampNeg (x3 + (1 : Int32))))) (cwV 1 hts gL_law_X10_save rfl rfl rfl (by decide +kernel) ⟨Nat.le_of_ble_eq_true rfl, Nat.le_of_ble_eq_true rfl⟩) hP hD hS hA hKn 0 10 rfl rfl rfl h rfl hl.1 rfl (Nat.le_of_ble_eq_true rfl) dL_law_733 ⟨Nat.le_of_ble_eq_true rfl, Nat.le_of_ble_eq_true rfl⟩ (fun r2 m1 H locs h hP hD hS => ?_)
  have hP : va_P G.1 vwCl (wM G am m1 ++ (wQ G a q ++ (wO G a bb ae g az o ++ (wD G g d ++ (wQ G ae tq ++ (wZ G az zs ++ [])))))) H := hP
  have hD : va_D A (wM G am m1 ++ (wQ G a q ++ (wO G a bb ae g az o ++ (wD G g d ++ (wQ G ae tq ++ (wZ G az zs ++ [])))))) := hD
  obtain ⟨hP, hD⟩ := q_perm ((((((((((List.perm_append_comm_assoc _ _ _).append_left _).trans (List.perm_append_comm_assoc _ _ _)).append_left _).trans (List.perm_append_comm_assoc _ _ _)).append_left _).trans (List.perm_append_comm_assoc _ _ _)).append_left _).trans (List.perm_append_comm_assoc _ _ _))).symm hP hD
  have hP : va_P G.1 vwCl (wQ G a q ++ (wO G a bb ae g az o ++ (wD G g d ++ (wQ G ae tq ++ (wZ G az zs ++ (wM G am m1 ++ [])))))) H := hP
  have hD : va_D A (wQ G a q ++ (wO G a bb ae g az o ++ (wD G g d ++ (wQ G ae tq ++ (wZ G az zs ++ (wM G am m1 ++ [])))))) := hD
  have h : r = r2 ∧ JJ q o d zs m1 := h
  exact lv_icmp_eq (tgt := 764) hx hb dL_law_736 (by decide) (fun c1 => hk q o d tq zs m1 H locs ls h.2 hP hD hS hl) (fun c1 => absurd h.1 c1)
set_option maxHeartbeats 4000000 in
set_option maxRecDepth 100000 in
theorem law_c21 {p : Program} {l : Launch} {e : Env} {s : State} {m : MethodId} {below : List Frame} {meth : Method} {c : Code} {sb L : Nat} {xs : Nat → Int32} {G : qG} {A : Nat → Prop} {a bb ae g am : Nat → Nat} {az : Nat → Nat → Nat} {Qf : State → Prop} (hx : p.tables.exec = Jvm.exec) (hb : c.code = code) (hml : c.maxLocals = 4) (hown : s.vm.findClass RL = some m.cls) (hts : ∀ w ∈ wsL_law, w.before #[Value.ref sb] s = true) (hX : va_X sb L xs s s.heap) (hbl : sb < s.heap.size) (hbA : ¬ A sb) (hA : ∀ q : Nat, s.heap.size ≤ q → A q) (hKn : qKn G A s s.heap) (hL : L ≤ 3584) {x3 : Int32} {i : Nat} (hi : i + 7 ≤ L) (ex : x3 = nI i) (hk : ∀ (q o d tq : qS) (zs : Nat → qS) (m1 : qS) (H : Heap) (locs : List Loc) (ls : Array Slot), JJ q o d zs m1 → va_P G.1 vwCl (wQ G a q ++ (wO G a bb ae g az o ++ (wD G g d ++ (wQ G ae tq ++ (wZ G az zs ++ (wM G am m1 ++ [])))))) H → va_D A (wQ G a q ++ (wO G a bb ae g az o ++ (wD G g d ++ (wQ G ae tq ++ (wZ G az zs ++ (wM G am m1 ++ [])))))) → va_S A s.heap H locs → lv_has ls 4 [(0, .ref sb), (1, .ref (bb 0)), (2, .ref (am 0)), (3, .int x3)] → W p l e room_1 s m #[Value.ref sb] below meth c H locs 600000 7302249 Qf (F0 m 764 ls [])) {q o d tq : qS} {zs : Nat → qS} {m1 : qS} {H : Heap} {locs : List Loc} {ls : Array Slot} (hJ : JJ q o d zs m1) (hP : va_P G.1 vwCl (wQ G a q ++ (wO G a bb ae g az o ++ (wD G g d ++ (wQ G ae tq ++ (wZ G az zs ++ (wM G am m1 ++ [])))))) H) (hD : va_D A (wQ G a q ++ (wO G a bb ae g az o ++ (wD G g d ++ (wQ G ae tq ++ (wZ G az zs ++ (wM G am m1 ++ []))))))) (hS : va_S A s.heap H locs) (hl : lv_has ls 4 [(0, .ref sb), (1, .ref (bb 0)), (2, .ref (am 0)), (3, .int x3)]) : W p l e room_1 s m #[Value.ref sb] below meth c H locs 600000 7302249 Qf (F0 m 741 ls []) := by
  refine lv_aload_n hx hb dL_law_741 rfl (lv_at hl 1 rfl) ?_
  refine lv_aload_n hx hb dL_law_742 rfl (lv_at hl 0 rfl) ?_
  refine lv_iload_n hx hb dL_law_743 rfl (lv_at hl 3 rfl) ?_
  refine lv_iconst (v := (1 : Int32)) hx hb dL_law_744 (by decide) ?_
  refine lv_iadd hx hb dL_law_745 ?_
  refine va_sld hx hb hX hbl hbA hS (law_in (k := 1) (by omega) hL ex) dL_law_746 ?_
  have h : wX9_restore (fun r q o d tq zs => wX10_restore (fun r2 m => r = r2 ∧ JJ q o d zs m) m1 (xs (Int32.toNatClampNeg (x3 + (1 : Int32))))) q o d tq zs (xs (Int32.toNatClampNeg (x3 + (1 : Int32)))) := j_restore hJ
  refine qc_vi (As := [.int (xs (Int32.toNatClampNeg (x3 + (1 : Int32))))]) (rest := []) ⟨hx, hb, hml, hown, hts⟩ (mX9_restore l G _ _ a bb g ae az q o d tq zs _ (xs (Int32.toNatClampNeg (x3 + (1 : Int32))))) (cwV 1 hts gL_law_X9_restore rfl rfl rfl (by decide +kernel) ⟨Nat.le_of_ble_eq_true rfl, Nat.le_of_ble_eq_true rfl⟩) hP hD hS hA hKn 18 9 rfl rfl rfl h rfl hl.1 rfl (Nat.le_of_ble_eq_true rfl) dL_law_747 ⟨Nat.le_of_ble_eq_true rfl, Nat.le_of_ble_eq_true rfl⟩ (fun r u H locs h hP hD hS => ?_)
  obtain ⟨q, o, d, tq, zs⟩ := u
  have hP : va_P G.1 vwCl (wQ G a q ++ (wO G a bb ae g az o ++ (wD G g d ++ (wQ G ae tq ++ (wZ G az zs ++ (wM G am m1 ++ [])))))) H := hP
  have hD : va_D A (wQ G a q ++ (wO G a bb ae g az o ++ (wD G g d ++ (wQ G ae tq ++ (wZ G az zs ++ (wM G am m1 ++ [])))))) := hD
  have h : wX10_restore (fun r2 m => r = r2 ∧ JJ q o d zs m) m1 (xs (Int32.toNatClampNeg (x3 + (1 : Int32)))) := h
  refine lv_aload_n hx hb dL_law_750 rfl (lv_at hl 2 rfl) ?_
  refine lv_aload_n hx hb dL_law_751 rfl (lv_at hl 0 rfl) ?_
  refine lv_iload_n hx hb dL_law_752 rfl (lv_at hl 3 rfl) ?_
  refine lv_iconst (v := (1 : Int32)) hx hb dL_law_753 (by decide) ?_
  refine lv_iadd hx hb dL_law_754 ?_
  refine va_sld hx hb hX hbl hbA hS (law_in (k := 1) (by omega) hL ex) dL_law_755 ?_
  obtain ⟨hP, hD⟩ := q_perm (((((((((List.perm_append_comm_assoc _ _ _).append_left _).trans (List.perm_append_comm_assoc _ _ _)).append_left _).trans (List.perm_append_comm_assoc _ _ _)).append_left _).trans (List.perm_append_comm_assoc _ _ _)).append_left _).trans (List.perm_append_comm_assoc _ _ _)) hP hD
  have hP : va_P G.1 vwCl (wM G am m1 ++ (wQ G a q ++ (wO G a bb ae g az o ++ (wD G g d ++ (wQ G ae tq ++ (wZ G az zs ++ [])))))) H := hP
  have hD : va_D A (wM G am m1 ++ (wQ G a q ++ (wO G a bb ae g az o ++ (wD G g d ++ (wQ G ae tq ++ (wZ G az zs ++ [])))))) := hD
  refine qc_vi (As := [.int (xs (Int32.toNatClampNeg (x3 + (1 : Int32))))]) (rest := [.int r]) ⟨hx, hb, hml, hown, hts⟩ (mX10_restore l G _ _ am m1 _ (xs (Int32.toNatClampNeg (x3 + (1 : Int32))))) (cwV 1 hts gL_law_X10_restore rfl rfl rfl (by decide +kernel) ⟨Nat.le_of_ble_eq_true rfl, Nat.le_of_ble_eq_true rfl⟩) hP hD hS hA hKn 0 10 rfl rfl rfl h rfl hl.1 rfl (Nat.le_of_ble_eq_true rfl) dL_law_756 ⟨Nat.le_of_ble_eq_true rfl, Nat.le_of_ble_eq_true rfl⟩ (fun r2 m1 H locs h hP hD hS => ?_)
  have hP : va_P G.1 vwCl (wM G am m1 ++ (wQ G a q ++ (wO G a bb ae g az o ++ (wD G g d ++ (wQ G ae tq ++ (wZ G az zs ++ [])))))) H := hP
  have hD : va_D A (wM G am m1 ++ (wQ G a q ++ (wO G a bb ae g az o ++ (wD G g d ++ (wQ G ae tq ++ (wZ G az zs ++ [])))))) := hD
  obtain ⟨hP, hD⟩ := q_perm ((((((((((List.perm_append_comm_assoc _ _ _).append_left _).trans (List.perm_append_comm_assoc _ _ _)).append_left _).trans (List.perm_append_comm_assoc _ _ _)).append_left _).trans (List.perm_append_comm_assoc _ _ _)).append_left _).trans (List.perm_append_comm_assoc _ _ _))).symm hP hD
  have hP : va_P G.1 vwCl (wQ G a q ++ (wO G a bb ae g az o ++ (wD G g d ++ (wQ G ae tq ++ (wZ G az zs ++ (wM G am m1 ++ [])))))) H := hP
  have hD : va_D A (wQ G a q ++ (wO G a bb ae g az o ++ (wD G g d ++ (wQ G ae tq ++ (wZ G az zs ++ (wM G am m1 ++ [])))))) := hD
  have h : r = r2 ∧ JJ q o d zs m1 := h
  exact lv_icmp_eq (tgt := 764) hx hb dL_law_759 (by decide) (fun c1 => hk q o d tq zs m1 H locs ls h.2 hP hD hS hl) (fun c1 => absurd h.1 c1)
set_option maxHeartbeats 4000000 in
set_option maxRecDepth 100000 in
theorem law_loop {p : Program} {l : Launch} {e : Env} {s : State} {m : MethodId} {below : List Frame} {meth : Method} {c : Code} {sb L : Nat} {xs : Nat → Int32} {G : qG} {A : Nat → Prop} {a bb ae g am : Nat → Nat} {az : Nat → Nat → Nat} {Qf : State → Prop} (hx : p.tables.exec = Jvm.exec) (hb : c.code = code) (hml : c.maxLocals = 4) (hown : s.vm.findClass RL = some m.cls) (hts : ∀ w ∈ wsL_law, w.before #[Value.ref sb] s = true) (hX : va_X sb L xs s s.heap) (hbl : sb < s.heap.size) (hbA : ¬ A sb) (hA : ∀ q : Nat, s.heap.size ≤ q → A q) (hKn : qKn G A s s.heap) (hL : L ≤ 3584) (hend : ∀ (H : Heap) (locs : List Loc) (ls : Array Slot), va_S A s.heap H locs → W p l e room_1 s m #[Value.ref sb] below meth c H locs 600000 7302249 Qf (F0 m 770 ls [])) : ∀ (n i : Nat) (x3 : Int32), i ≤ L → L + 1 ≤ i + 7 * n → x3 = nI i → ∀ (q o d tq : qS) (zs : Nat → qS) (m1 : qS) (H : Heap) (locs : List Loc) (ls : Array Slot), JJ q o d zs m1 → va_P G.1 vwCl (wQ G a q ++ (wO G a bb ae g az o ++ (wD G g d ++ (wQ G ae tq ++ (wZ G az zs ++ (wM G am m1 ++ [])))))) H → va_D A (wQ G a q ++ (wO G a bb ae g az o ++ (wD G g d ++ (wQ G ae tq ++ (wZ G az zs ++ (wM G am m1 ++ [])))))) → va_S A s.heap H locs → lv_has ls 4 [(0, .ref sb), (1, .ref (bb 0)), (2, .ref (am 0)), (3, .int x3)] → W p l e room_1 s m #[Value.ref sb] below meth c H locs 600000 7302249 Qf (F0 m 18 ls []) := by
  intro n
  induction n with
  | zero => intro i x3 h1 h2; exact absurd h2 (by omega)
  | succ n ih =>
    intro i x3 hi hin ex q o d tq zs m1 H locs ls hJ hP hD hS hl
    refine lv_iload_n hx hb dL_law_18 rfl (lv_at hl 3 rfl) ?_
    refine lv_aload_n hx hb dL_law_19 rfl (lv_at hl 0 rfl) ?_
    refine va_slen hx hb hX hbl hbA hS dL_law_20 ?_
    refine lv_bipush (v := (7 : Int32)) hx hb dL_law_21 (by decide) ?_
    refine lv_isub hx hb dL_law_23 ?_
    have hgt : (Int32.ofNat L - (7 : Int32)) < x3 ↔ L < i + 7 := by
      rw [ex, Int32.lt_iff_toInt_lt, show Int32.ofNat L - (7 : Int32) = nI L - nI 7 from rfl, pk_sub_toInt (by omega) (by omega), nI_toInt (by omega)]
      omega
    refine lv_icmp_gt (tgt := 770) hx hb dL_law_24 (by decide) (fun c1 => hend H locs ls hS) (fun c1 => ?_)
    have h7 : i + 7 ≤ L := by
      rcases Nat.lt_or_ge L (i + 7) with z | z
      · exact absurd (hgt.mpr z) c1
      · exact z
    have hk : ∀ (q o d tq : qS) (zs : Nat → qS) (m1 : qS) (H : Heap) (locs : List Loc) (ls : Array Slot), JJ q o d zs m1 → va_P G.1 vwCl (wQ G a q ++ (wO G a bb ae g az o ++ (wD G g d ++ (wQ G ae tq ++ (wZ G az zs ++ (wM G am m1 ++ [])))))) H → va_D A (wQ G a q ++ (wO G a bb ae g az o ++ (wD G g d ++ (wQ G ae tq ++ (wZ G az zs ++ (wM G am m1 ++ [])))))) → va_S A s.heap H locs → lv_has ls 4 [(0, .ref sb), (1, .ref (bb 0)), (2, .ref (am 0)), (3, .int x3)] → W p l e room_1 s m #[Value.ref sb] below meth c H locs 600000 7302249 Qf (F0 m 764 ls []) := by
      intro q o d tq zs m1 H locs ls hJ hP hD hS hl
      obtain ⟨y, ey⟩ : ∃ z : Int32, z = x3 + (7 : Int32) := ⟨_, rfl⟩
      refine lv_iinc (v := y) (lv' := [(3, .int y), (0, .ref sb), (1, .ref (bb 0)), (2, .ref (am 0))]) hx hb dL_law_764 hl (k := 3) rfl (by rw [ey]; rfl) (by decide) rfl (fun ls hl => ?_)
      refine lv_goto (tgt := 18) hx hb dL_law_767 (by decide) ?_
      exact ih (i + 7) y (by omega) (by omega) (by rw [ey, ex]; exact nI_add i 7) q o d tq zs m1 H locs ls hJ hP hD hS (lv_sub hl [1, 2, 3, 0] rfl)
    refine lv_aload_n hx hb dL_law_27 rfl (lv_at hl 0 rfl) ?_
    refine lv_iload_n hx hb dL_law_28 rfl (lv_at hl 3 rfl) ?_
    refine va_sld hx hb hX hbl hbA hS (by rw [ex]; exact vp_in_nI (by omega) (by omega)) dL_law_29 ?_
    refine lv_bipush (v := (31 : Int32)) hx hb dL_law_30 (by decide) ?_
    refine lv_iand hx hb dL_law_32 ?_
    obtain ⟨j, hj, ej⟩ := pk_andE (xs x3.toNatClampNeg) (m := (31 : Int32)) 5 (by decide)
    rw [ej]
    by_cases h22 : j < 22
    · rcases (show j = 0 ∨ j = 1 ∨ j = 2 ∨ j = 3 ∨ j = 4 ∨ j = 5 ∨ j = 6 ∨ j = 7 ∨ j = 8 ∨ j = 9 ∨ j = 10 ∨ j = 11 ∨ j = 12 ∨ j = 13 ∨ j = 14 ∨ j = 15 ∨ j = 16 ∨ j = 17 ∨ j = 18 ∨ j = 19 ∨ j = 20 ∨ j = 21 by omega) with rfl | rfl | rfl | rfl | rfl | rfl | rfl | rfl | rfl | rfl | rfl | rfl | rfl | rfl | rfl | rfl | rfl | rfl | rfl | rfl | rfl | rfl
      · refine lv_tableIn (tgt := 136) hx hb dL_law_33 (by decide) (by decide) (by rfl) (by decide) ?_
        exact law_c0 hx hb hml hown hts hX hbl hbA hA hKn hL h7 ex hk hJ hP hD hS hl
      · refine lv_tableIn (tgt := 169) hx hb dL_law_33 (by decide) (by decide) (by rfl) (by decide) ?_
        exact law_c1 hx hb hml hown hts hX hbl hbA hA hKn hL h7 ex hk hJ hP hD hS hl
      · refine lv_tableIn (tgt := 212) hx hb dL_law_33 (by decide) (by decide) (by rfl) (by decide) ?_
        exact law_c2 hx hb hml hown hts hX hbl hbA hA hKn hL h7 ex hk hJ hP hD hS hl
      · refine lv_tableIn (tgt := 287) hx hb dL_law_33 (by decide) (by decide) (by rfl) (by decide) ?_
        exact law_c3 hx hb hml hown hts hX hbl hbA hA hKn hL h7 ex hk hJ hP hD hS hl
      · refine lv_tableIn (tgt := 310) hx hb dL_law_33 (by decide) (by decide) (by rfl) (by decide) ?_
        exact law_c4 hx hb hml hown hts hX hbl hbA hA hKn hL h7 ex hk hJ hP hD hS hl
      · refine lv_tableIn (tgt := 323) hx hb dL_law_33 (by decide) (by decide) (by rfl) (by decide) ?_
        exact law_c5 hx hb hml hown hts hX hbl hbA hA hKn hL h7 ex hk hJ hP hD hS hl
      · refine lv_tableIn (tgt := 346) hx hb dL_law_33 (by decide) (by decide) (by rfl) (by decide) ?_
        exact law_c6 hx hb hml hown hts hX hbl hbA hA hKn hL h7 ex hk hJ hP hD hS hl
      · refine lv_tableIn (tgt := 379) hx hb dL_law_33 (by decide) (by decide) (by rfl) (by decide) ?_
        exact law_c7 hx hb hml hown hts hX hbl hbA hA hKn hL h7 ex hk hJ hP hD hS hl
      · refine lv_tableIn (tgt := 412) hx hb dL_law_33 (by decide) (by decide) (by rfl) (by decide) ?_
        exact law_c8 hx hb hml hown hts hX hbl hbA hA hKn hL h7 ex hk hJ hP hD hS hl
      · refine lv_tableIn (tgt := 445) hx hb dL_law_33 (by decide) (by decide) (by rfl) (by decide) ?_
        exact law_c9 hx hb hml hown hts hX hbl hbA hA hKn hL h7 ex hk hJ hP hD hS hl
      · refine lv_tableIn (tgt := 468) hx hb dL_law_33 (by decide) (by decide) (by rfl) (by decide) ?_
        exact law_c10 hx hb hml hown hts hX hbl hbA hA hKn hL h7 ex hk hJ hP hD hS hl
      · refine lv_tableIn (tgt := 491) hx hb dL_law_33 (by decide) (by decide) (by rfl) (by decide) ?_
        exact law_c11 hx hb hml hown hts hX hbl hbA hA hKn hL h7 ex hk hJ hP hD hS hl
      · refine lv_tableIn (tgt := 514) hx hb dL_law_33 (by decide) (by decide) (by rfl) (by decide) ?_
        exact law_c12 hx hb hml hown hts hX hbl hbA hA hKn hL h7 ex hk hJ hP hD hS hl
      · refine lv_tableIn (tgt := 547) hx hb dL_law_33 (by decide) (by decide) (by rfl) (by decide) ?_
        exact law_c13 hx hb hml hown hts hX hbl hbA hA hKn hL h7 ex hk hJ hP hD hS hl
      · refine lv_tableIn (tgt := 580) hx hb dL_law_33 (by decide) (by decide) (by rfl) (by decide) ?_
        exact law_c14 hx hb hml hown hts hX hbl hbA hA hKn hL h7 ex hk hJ hP hD hS hl
      · refine lv_tableIn (tgt := 613) hx hb dL_law_33 (by decide) (by decide) (by rfl) (by decide) ?_
        exact law_c15 hx hb hml hown hts hX hbl hbA hA hKn hL h7 ex hk hJ hP hD hS hl
      · refine lv_tableIn (tgt := 666) hx hb dL_law_33 (by decide) (by decide) (by rfl) (by decide) ?_
        exact law_c16 hx hb hml hown hts hX hbl hbA hA hKn hL h7 ex hk hJ hP hD hS hl
      · refine lv_tableIn (tgt := 679) hx hb dL_law_33 (by decide) (by decide) (by rfl) (by decide) ?_
        exact law_c17 hx hb hml hown hts hX hbl hbA hA hKn hL h7 ex hk hJ hP hD hS hl
      · refine lv_tableIn (tgt := 692) hx hb dL_law_33 (by decide) (by decide) (by rfl) (by decide) ?_
        exact law_c18 hx hb hml hown hts hX hbl hbA hA hKn hL h7 ex hk hJ hP hD hS hl
      · refine lv_tableIn (tgt := 705) hx hb dL_law_33 (by decide) (by decide) (by rfl) (by decide) ?_
        exact law_c19 hx hb hml hown hts hX hbl hbA hA hKn hL h7 ex hk hJ hP hD hS hl
      · refine lv_tableIn (tgt := 718) hx hb dL_law_33 (by decide) (by decide) (by rfl) (by decide) ?_
        exact law_c20 hx hb hml hown hts hX hbl hbA hA hKn hL h7 ex hk hJ hP hD hS hl
      · refine lv_tableIn (tgt := 741) hx hb dL_law_33 (by decide) (by decide) (by rfl) (by decide) ?_
        exact law_c21 hx hb hml hown hts hX hbl hbA hA hKn hL h7 ex hk hJ hP hD hS hl
    · refine lv_tableOut (tgt := 764) hx hb dL_law_33 (by rw [nI_toInt (by omega)]; omega) (by decide) ?_
      exact hk q o d tq zs m1 H locs ls hJ hP hD hS hl
