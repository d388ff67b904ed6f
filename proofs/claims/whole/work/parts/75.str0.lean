/-! the texts: what is known of them, calls over them, and the conditions (printed by a program of mine out of the bytecode) -/
abbrev qFm (G : qG) : Value := if G.2.2.1 3 = 0 then .null else .ref (G.2.2.1 3 - 1)
theorem qFm_or (G : qG) : qFm G = .null ∨ ∃ a, qFm G = .ref a := by
  unfold qFm
  split
  · exact Or.inl rfl
  · exact Or.inr ⟨_, rfl⟩
theorem q_rr {S : Type} {G : qG} {ws : va_W} {s t : State} {A : Nat → Prop} {post : Nat → S → Prop} {W' : S → va_W} {args : Array Value} {r : Nat} {u : S} {H : Heap} {locs : List Loc} (hA : va_A ws s.heap.size = A) (hp : post r u) (hP : va_P G.1 vwCl (W' u) H) (hD : va_D A (W' u)) (hS : va_S A s.heap H locs) (ht : t.heap = H) : qQr G ws s.heap.size post W' args s (.returned (some (.ref r))) t := by
  subst hA
  exact ⟨⟨(r, u), r, rfl, hp, rfl, by rw [ht]; exact hP, hD⟩, hS.F ht⟩
section QT
variable {p : Program} {l : Launch} {e : Env} {Rm : Room} {s : State} {m : MethodId} {args : Array Value} {below : List Frame} {meth : Method} {c : Code} {H : Heap} {locs : List Loc} {cells slots : Nat} {Q : State → Prop}
variable {y : MethodName} {bytes cc : ByteArray} {maxL nL n index : Nat} {ret : Option FieldType} {wy : List Cond} {rm : Room} {Ts : List Cond} {own : String} {As rest st0 : List Value} {ls : Array Slot} {pc : Nat} {G : qG} {A : Nat → Prop} {ws : va_W} {wp : Prop}
/-- a call of a kept text's method that gives a number -/
theorem qc_ki {S : Type} {i : Nat} {post : Int32 → S → Prop} {W' : S → va_W} (S0 : CallFix p m c cc nL s args Ts own) (hM : Met l y wy rm (qPc G (.ref (G.2.2.2.1 i) :: As) ws H.size wp) (qQi G ws H.size post W') 0 0 (va_A ws H.size)) (cw : CallW Rm s args own RJ0 index y bytes maxL ret wy rm 0 0 n)
    (hP : va_P G.1 vwCl ws H) (hD : va_D A ws) (hS : va_S A s.heap H locs) (hA : ∀ q : Nat, s.heap.size ≤ q → A q) (hKn : qKn G A s s.heap) (hi : i < 6) (hwp : wp)
    (hn : As.length = n) (hsize : ls.size = nL) (hst : st0 = As.reverse ++ .ref (G.2.2.2.1 i) :: rest) (hrest : (rest.map fun v => v.category).sum ≤ 8) (hdg : decode cc pc = .ok (.invokevirtual index, 3)) (hcs : cells ≤ Rm.cells ∧ slots ≤ Rm.slots)
    (kk : ∀ (r : Int32) (u : S) (H1 : Heap) (locs1 : List Loc), post r u → va_P G.1 vwCl (W' u) H1 → va_D A (W' u) → va_S A s.heap H1 locs1 → W p l e Rm s m args below meth c H1 locs1 cells slots Q (F0 m (pc + 3) ls (.int r :: rest))) : W p l e Rm s m args below meth c H locs cells slots Q (F0 m pc ls st0) := by
  have hF := q_free hD hS hA
  refine va_calli (va_runV (As := As) (rest := rest) S0 hM cw ⟨qPc.blind, vk_recv hKn.2.2.2.2.2.1 hi hS, q_pre hP hD hS hA hKn hwp _⟩ rfl hn hsize hst (lv_room hrest) hdg hcs) hS (fun q _ h => hF q h) hF (fun r u t H1 locs1 ht hvm hw hB hz1 hk1 hS1 => ?_)
  exact kk r u H1 locs1 hw (ht ▸ hB.1) (hB.2.weaken (fun k q _ h => hF q.1 h)) hS1
/-- a static call that gives an object -/
theorem qc_sr {S : Type} {post : Nat → S → Prop} {W' : S → va_W} (S0 : CallFix p m c cc nL s args Ts own) (hM : Met l y wy rm (qPc G As ws H.size wp) (qQr G ws H.size post W') 0 0 (va_A ws H.size)) (cw : CallB Rm s args own index y bytes maxL ret wy rm 0 0 n ∧ (Cond.static y).before args s = true)
    (hP : va_P G.1 vwCl ws H) (hD : va_D A ws) (hS : va_S A s.heap H locs) (hA : ∀ q : Nat, s.heap.size ≤ q → A q) (hKn : qKn G A s s.heap) (hwp : wp)
    (hn : As.length = n) (hsize : ls.size = nL) (hst : st0 = As.reverse ++ rest) (hrest : (rest.map fun v => v.category).sum ≤ 8) (hdg : decode cc pc = .ok (.invokestatic index, 3)) (hcs : cells ≤ Rm.cells ∧ slots ≤ Rm.slots)
    (kk : ∀ (r : Nat) (u : S) (H1 : Heap) (locs1 : List Loc), post r u → va_P G.1 vwCl (W' u) H1 → va_D A (W' u) → va_S A s.heap H1 locs1 → W p l e Rm s m args below meth c H1 locs1 cells slots Q (F0 m (pc + 3) ls (.ref r :: rest))) : W p l e Rm s m args below meth c H locs cells slots Q (F0 m pc ls st0) := by
  have hF := q_free hD hS hA
  refine va_callr (va_runS (As := As) (rest := rest) S0 hM cw ⟨qPc.blind, q_pre hP hD hS hA hKn hwp _⟩ rfl hn hsize hst (lv_room hrest) hdg hcs) hS (fun q _ h => hF q h) hF (fun u ra t H1 locs1 ht hvm hw hB hz1 hk1 hS1 => ?_)
  obtain ⟨a, u⟩ := u
  obtain ⟨rfl, hB⟩ := hB
  exact kk _ u H1 locs1 hw (ht ▸ hB.1) (hB.2.weaken (fun k q _ h => hF q.1 h)) hS1
end QT
def wJ0_isLatin1_aae02_b18 (k : Int32 → Prop)  (z0 : Int32) : Prop := narrow .boolean (.int z0) = .int z0 ∧ k z0 
def wJ0_isLatin1_aae02_b17 (k : Int32 → Prop)  : Prop := wJ0_isLatin1_aae02_b18 k (0 : Int32)
def wJ0_isLatin1_aae02 (k : Int32 → Prop)  (i0 : Nat) : Prop := ((1 : Int32) = 0 → (wJ0_isLatin1_aae02_b17 k )) ∧ (¬ (1 : Int32) = 0 → (i0 < 6 ∧ ((¬ (0 : Int32) = 0 → (wJ0_isLatin1_aae02_b17 k )) ∧ ((0 : Int32) = 0 → (wJ0_isLatin1_aae02_b18 k (1 : Int32))))))
def wJ0_coder_7d493_b14 (k : Int32 → Prop)  (z0 : Int32) : Prop := narrow .byte (.int z0) = .int z0 ∧ k z0
def wJ0_coder_7d493 (k : Int32 → Prop)  (i0 : Nat) : Prop := ((1 : Int32) = 0 → (wJ0_coder_7d493_b14 k (1 : Int32))) ∧ (¬ (1 : Int32) = 0 → (i0 < 6 ∧ (wJ0_coder_7d493_b14 k (0 : Int32))))
def wJ0_length_8abf5 (k : Int32 → Prop)  (i0 : Nat) : Prop := i0 < 6 ∧ (i0 < 6 ∧ (i0 < 6 ∧ wJ0_coder_7d493 (fun (r1 : Int32) => k ((nI (qtl.getD (i0) 0)) >>> (r1 &&& 31)) ) (i0)))
def wJ1_canEncode_9a6ad_b16 (k : Int32 → Prop)  (z0 : Int32) : Prop := narrow .boolean (.int z0) = .int z0 ∧ k z0 
def wJ1_canEncode_9a6ad_b15 (k : Int32 → Prop)  : Prop := wJ1_canEncode_9a6ad_b16 k (0 : Int32)
def wJ1_canEncode_9a6ad (k : Int32 → Prop)  (p0 : Int32) : Prop := (p0 < 0 → (wJ1_canEncode_9a6ad_b15 k )) ∧ (¬ p0 < 0 → (((255 : Int32) < p0 → (wJ1_canEncode_9a6ad_b15 k )) ∧ (¬ (255 : Int32) < p0 → (wJ1_canEncode_9a6ad_b16 k (1 : Int32)))))
def wJ1_indexOfChar_4cfef_b7 (k : Int32 → Prop) : Nat → Nat → Int32 → Int32 → Int32 → Prop
  | 0, _, _, _, _ => False
  | n + 1, x0, x3, x4, x5 => (x3 ≤ x5 → (k (-1 : Int32) )) ∧ (¬ x3 ≤ x5 → (x0 < 6 ∧ vp_in x5 (qtl.getD (x0) 0) ∧ ((¬ ((qtx.getD (x0) []).getD (Int32.toNatClampNeg x5) 0) = x4 → (∀ y1 : Int32, y1 = x5 + (1 : Int32) → (wJ1_indexOfChar_4cfef_b7 k n x0 x3 x4 y1))) ∧ (((qtx.getD (x0) []).getD (Int32.toNatClampNeg x5) 0) = x4 → (k x5 )))))
def wJ1_indexOfChar_4cfef (k : Int32 → Prop)  (i0 : Nat) (p1 : Int32) (p2 : Int32) (p3 : Int32) : Prop := ∀ y2 : Int32, y2 = ((p1).toInt8.toInt32) → (∃ n0 : Nat, wJ1_indexOfChar_4cfef_b7 k n0 i0 p3 y2 p2)
def wJ1_indexOf_4cfef (k : Int32 → Prop)  (i0 : Nat) (p1 : Int32) (p2 : Int32) (p3 : Int32) : Prop := wJ1_canEncode_9a6ad (fun (r1 : Int32) => (¬ r1 = 0 → (∀ y2 : Int32, y2 = (if p2 < (0 : Int32) then (0 : Int32) else p2) → (i0 < 6 ∧ (∀ y3 : Int32, y3 = (if (nI (qtl.getD (i0) 0)) < p3 then (nI (qtl.getD (i0) 0)) else p3) → ((y2 < y3 → (wJ1_indexOfChar_4cfef (fun (r4 : Int32) => k r4 ) (i0) (p1) (y2) (y3))) ∧ (¬ y2 < y3 → (k (-1 : Int32) ))))))) ∧ (r1 = 0 → (k (-1 : Int32) ))) (p1)
def wJ0_indexOf_7cf53 (k : Int32 → Prop)  (i0 : Nat) (p0 : Int32) (p1 : Int32) : Prop := i0 < 6 ∧ wJ0_isLatin1_aae02 (fun (r1 : Int32) => (r1 = 0 → (False)) ∧ (¬ r1 = 0 → (i0 < 6 ∧ (i0 < 6 ∧ wJ0_length_8abf5 (fun (r2 : Int32) => wJ1_indexOf_4cfef (fun (r3 : Int32) => k r3 ) (i0) (p0) (p1) (r2)) (i0))))) (i0)
def wJ0_indexOf_0f7a4 (k : Int32 → Prop)  (i0 : Nat) (p0 : Int32) : Prop := i0 < 6 ∧ wJ0_indexOf_7cf53 (fun (r1 : Int32) => k r1 ) (i0) (p0) ((0 : Int32))
def wJ3_checkIndex_8e157 (k : Int32 → Prop)  (p0 : Int32) (p1 : Int32) : Prop := (p0 < 0 → (False)) ∧ (¬ p0 < 0 → ((p0 < p1 → (k p0 )) ∧ (¬ p0 < p1 → (False))))
def wJ0_checkIndex_df160 (k : Prop)  (p0 : Int32) (p1 : Int32) : Prop := wJ3_checkIndex_8e157 (fun (r1 : Int32) => k ) (p0) (p1)
def wJ1_charAt_3b067 (k : Int32 → Prop)  (i0 : Nat) (p1 : Int32) : Prop := i0 < 6 ∧ (wJ0_checkIndex_df160 (i0 < 6 ∧ vp_in p1 (qtl.getD (i0) 0) ∧ (narrow .char (.int (((((qtx.getD (i0) []).getD (Int32.toNatClampNeg p1) 0) &&& (255 : Int32))).toUInt32 % 65536).toInt32) = .int (((((qtx.getD (i0) []).getD (Int32.toNatClampNeg p1) 0) &&& (255 : Int32))).toUInt32 % 65536).toInt32 ∧ k (((((qtx.getD (i0) []).getD (Int32.toNatClampNeg p1) 0) &&& (255 : Int32))).toUInt32 % 65536).toInt32 )) (p1) ((nI (qtl.getD (i0) 0))))
def wJ0_charAt_5068e (k : Int32 → Prop)  (i0 : Nat) (p0 : Int32) : Prop := i0 < 6 ∧ wJ0_isLatin1_aae02 (fun (r1 : Int32) => (r1 = 0 → (False)) ∧ (¬ r1 = 0 → (i0 < 6 ∧ (wJ1_charAt_3b067 (fun (r2 : Int32) => narrow .char (.int r2) = .int r2 ∧ k r2 ) (i0) (p0))))) (i0)
def wX5_shapeOf_b48 (k : Nat → Prop)  : Prop := k 5
def wX5_shapeOf (k : Nat → Prop)  (p0 : Int32) : Prop := (p0 = (0 : Int32) → (k 1)) ∧ (p0 = (1 : Int32) → (k 2)) ∧ (p0 = (2 : Int32) → (k 3)) ∧ (p0 = (3 : Int32) → (wX5_shapeOf_b48 k )) ∧ (p0 = (4 : Int32) → (k 4)) ∧ (¬ p0 = (0 : Int32) → ¬ p0 = (1 : Int32) → ¬ p0 = (2 : Int32) → ¬ p0 = (3 : Int32) → ¬ p0 = (4 : Int32) → (wX5_shapeOf_b48 k ))
def wX5_readOrder_b77 (k : Int32 → qS → Prop) (d : qS) (x2 : Int32) : Prop := narrow .boolean (.int x2) = .int x2 ∧ k x2 d
def wX5_readOrder_b49 (k : Int32 → qS → Prop) : Nat → qS → Nat → Int32 → Int32 → Prop
  | 0, _, _, _, _ => False
  | n + 1, d, x1, x2, x3 => x1 < 6 ∧ wJ0_length_8abf5 (fun (r1 : Int32) => (r1 ≤ x3 → (wX5_readOrder_b77 k d x2)) ∧ (¬ r1 ≤ x3 → ((x2 = 0 → (wX5_readOrder_b77 k d x2)) ∧ (¬ x2 = 0 → (x1 < 6 ∧ wJ0_charAt_5068e (fun (r2 : Int32) => wX5_readPart (fun (r3 : Int32) (d4 : qS) => ∀ y5 : Int32, y5 = x3 + (1 : Int32) → (wX5_readOrder_b49 k n d4 x1 r3 y5)) d r2) (x1) (x3)))))) (x1)
def wX5_readOrder (k : Int32 → qS → Prop) (d : qS) : Prop := wX5_sign (fun (r6 : Int32) (d7 : qS) => 0 < 6 ∧ wJ0_indexOf_0f7a4 (fun (r8 : Int32) => ∀ d9 : qS, d9 = up2 d7 0 2 r8 → (∀ d10 : qS, d10 = up2 d9 0 3 (0 : Int32) → ((0 ≤ (d10 0 2) → (∀ y11 : Int32, y11 = ((d10 0 1) + (1 : Int32)) → ∀ d12 : qS, d12 = up2 d10 0 1 y11 → (wX5_shapeOf (fun (i14 : Nat) => ∃ n0 : Nat, wX5_readOrder_b49 k n0 d12 i14 (1 : Int32) (0 : Int32)) ((d12 0 2))))) ∧ (¬ 0 ≤ (d10 0 2) → (k (0 : Int32) d10))))) (0) (r6)) d
def wX5_readNextOrder_b28 (k : Int32 → qS → Prop) (d : qS) (z0 : Int32) : Prop := narrow .boolean (.int z0) = .int z0 ∧ k z0 d
def wX5_readNextOrder_b27 (k : Int32 → qS → Prop) (d : qS) : Prop := wX5_readNextOrder_b28 k d (0 : Int32)
def wX5_readNextOrder_b16 (k : Int32 → qS → Prop) (d : qS) : Prop := wX5_readOrder (fun (r1 : Int32) (d2 : qS) => (r1 = 0 → (wX5_readNextOrder_b27 k d2)) ∧ (¬ r1 = 0 → (wX5_readNextOrder_b28 k d2 (1 : Int32)))) d
def wX5_readNextOrder (k : Int32 → qS → Prop) (d : qS) : Prop := ((d 0 1) = 0 → (wX5_readNextOrder_b16 k d)) ∧ (¬ (d 0 1) = 0 → (wX5_readSign (fun (r3 : Int32) (d4 : qS) => (r3 = 0 → (wX5_readNextOrder_b27 k d4)) ∧ (¬ r3 = 0 → (wX5_readNextOrder_b16 k d4))) d (59 : Int32)))
def wX5_firstFault_b56 (k : Int32 → qS → Prop) (d : qS) (z0 : Int32) : Prop := k z0 d
def wX5_firstFault_b43 (k : Int32 → qS → Prop) (d : qS) (x1 : Int32) : Prop := (x1 = 0 → (wX5_firstFault_b56 k d (d 0 1))) ∧ (¬ x1 = 0 → (wX5_firstFault_b56 k d (-6 : Int32)))
def wX5_firstFault_b11 (k : Int32 → qS → Prop) : Nat → qS → Int32 → Int32 → Prop
  | 0, _, _, _ => False
  | n + 1, d, x1, x2 => ((80 : Int32) ≤ x2 → (wX5_firstFault_b43 k d x1)) ∧ (¬ (80 : Int32) ≤ x2 → ((x1 = 0 → (wX5_firstFault_b43 k d x1)) ∧ (¬ x1 = 0 → (((d 0 0) ≤ (d 0 1) → (wX5_firstFault_b43 k d x1)) ∧ (¬ (d 0 0) ≤ (d 0 1) → (wX5_readNextOrder (fun (r1 : Int32) (d2 : qS) => ∀ y3 : Int32, y3 = x2 + (1 : Int32) → (wX5_firstFault_b11 k n d2 r1 y3)) d))))))
def wX5_firstFault (k : Int32 → qS → Prop) (d : qS) : Prop := wX5_startReading (fun (d5 : qS) => wX5_readOrder (fun (r6 : Int32) (d7 : qS) => ∃ n0 : Nat, wX5_firstFault_b11 k n0 d7 r6 (1 : Int32)) d5) d
def wX9_fault (k : Int32 → qS → qS → qS → qS → (Nat → qS) → Prop) (q : qS) (o : qS) (d : qS) (tq : qS) (zs : (Nat → qS)) : Prop := wX5_firstFault (fun (r1 : Int32) (d2 : qS) => k r1 q o d2 tq zs) d
def wX9_carryOut_b64 (k : Int32 → qS → qS → qS → qS → (Nat → qS) → Prop) (q : qS) (o : qS) (d : qS) (tq : qS) (zs : (Nat → qS)) (x1 : Int32) : Prop := ∀ d1 : qS, d1 = up2 d 0 0 (0 : Int32) → (wX9_recorded (fun (r2 : Int32) (q3 : qS) (o4 : qS) (d5 : qS) (tq6 : qS) (zs7 : (Nat → qS)) => k r2 q3 o4 d5 tq6 zs7) q o d1 tq zs x1)
def wX9_carryOut_b35 (k : Int32 → qS → qS → qS → qS → (Nat → qS) → Prop) : Nat → qS → qS → qS → qS → (Nat → qS) → Int32 → Prop
  | 0, _, _, _, _, _, _ => False
  | n + 1, q, o, d, tq, zs, x1 => ((80 : Int32) ≤ x1 → (wX9_carryOut_b64 k q o d tq zs x1)) ∧ (¬ (80 : Int32) ≤ x1 → (wX5_readNextOrder (fun (r8 : Int32) (d9 : qS) => (r8 = 0 → (wX9_carryOut_b64 k q o d9 tq zs x1)) ∧ (¬ r8 = 0 → (wX9_obey (fun (r10 : Int32) (q11 : qS) (o12 : qS) (d13 : qS) (tq14 : qS) (zs15 : (Nat → qS)) => (r10 < 0 → (wX9_carryOut_b64 k q11 o12 d13 tq14 zs15 x1)) ∧ (¬ r10 < 0 → (∀ y16 : Int32, y16 = x1 + (1 : Int32) → (wX9_carryOut_b35 k n q11 o12 d13 tq14 zs15 y16)))) q o d9 tq zs))) d))
def wX9_carryOut (k : Int32 → qS → qS → qS → qS → (Nat → qS) → Prop) (q : qS) (o : qS) (d : qS) (tq : qS) (zs : (Nat → qS)) : Prop := wX5_firstFault (fun (r17 : Int32) (d18 : qS) => (r17 = (-6 : Int32) → (wX4_prepare (fun (q20 : qS) (o21 : qS) (d22 : qS) (tq23 : qS) (zs24 : (Nat → qS)) => wX5_startReading (fun (d26 : qS) => ∃ n0 : Nat, wX9_carryOut_b35 k n0 q20 o21 d26 tq23 zs24 (0 : Int32)) d22) q o d18 tq zs)) ∧ (¬ r17 = (-6 : Int32) → (k (-3 : Int32) q o d18 tq zs))) d
