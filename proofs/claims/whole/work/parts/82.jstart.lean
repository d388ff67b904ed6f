/-! ===== both sides at first ===== -/
def v0 : vS := mI 1
theorem v0_at : v0 0 = nI 3 ∧ v0 1 = nI 20 ∧ v0 2 = nI 8 ∧ v0 3 = nI 5 ∧ v0 4 = nI 50 ∧ v0 5 = nI 2 := by decide
theorem v0_hi (j : Nat) (h : 6 ≤ j) : v0 j = 0 := by
  unfold v0 mI
  rw [if_pos rfl, upd_n (by omega), upd_n (by omega), upd_n (by omega), upd_n (by omega), upd_n (by omega), upd_n (by omega)]
theorem rg0 : RG qI v0 := by
  obtain ⟨e0, e1, e2, e3, e4, e5⟩ := v0_at
  have hz := v0_hi
  refine ⟨3, 0, 0, 0, 8, ⟨?_, ?_, ⟨?_, ?_⟩, ?_, ?_, ?_⟩, ⟨⟨e0, by omega, hz 7 (by omega), by omega, fun t ht => ⟨0, by omega, hz _ (by omega)⟩, fun f hf => by omega⟩, ⟨20, 8, 5, 50, 2, e1, by omega, e2, by omega, e3, by omega, e4, by omega, e5, by omega⟩, ⟨⟨0, hz 10 (by omega), by omega⟩, ⟨0, 0, 0, hz 14 (by omega), hz 15 (by omega), hz 16 (by omega), by omega⟩, fun h h1 h9 => ⟨0, hz _ (by omega), by omega⟩⟩, ⟨hz 8 (by omega), by omega, fun c hc => by omega⟩, fun f hf => by omega, fun t ht => ⟨fun _ => hz _ (by omega), fun z => absurd (hz _ (by omega)) z⟩⟩, hz 6 (by omega), by omega, e2, by omega, by omega, fun j hj => hz j (by omega)⟩
  · intro i hi
    rcases (show i = 0 ∨ i = 1 ∨ i = 2 ∨ i = 3 ∨ i = 4 ∨ i = 5 by omega) with rfl | rfl | rfl | rfl | rfl | rfl <;> decide
  · exact ⟨(hz 6 (by omega)).symm, (hz 7 (by omega)).symm, (hz 8 (by omega)).symm, (hz 9 (by omega)).symm, (hz 10 (by omega)).symm, (hz 11 (by omega)).symm, (hz 12 (by omega)).symm, (hz 13 (by omega)).symm⟩
  · intro i hi; exact (hz _ (by omega)).symm
  · intro h h1 h9; exact (hz _ (by omega)).symm
  · intro f hf; omega
  · intro t ht
    refine ⟨(hz _ (by omega)).symm, fun _ => ?_, fun z => absurd (hz _ (by omega)) z⟩
    show (if t < 20 then (-6 : Int32) else 0) = -6
    rw [if_pos ht]
  · intro c hc; omega
theorem j_start : JJ qI zI zI (fun _ => qI) mI := by
  refine ⟨v0, 0, fun _ => v0, fun _ => 0, fun _ _ => 0, 0, fun _ => 0, ⟨rg0, ⟨0, rfl, by omega, rfl, by omega, fun i hi => by omega⟩, fun s hs => ⟨rfl, fun z => absurd rfl z⟩, rfl, by omega, fun j hj => by omega⟩, rfl, rfl, by omega, fun i hi => by omega, fun s hs => rfl, fun s hs j hj => rfl, rfl, by omega, fun j hj => by omega⟩
