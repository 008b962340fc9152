/-! ===== the start ===== -/
def P0 : aP := (fun _ => [], fun _ => 0, fun _ => 0, 50)
theorem P0_ok : aOK P0 := by
  refine ⟨fun j _ => Nat.zero_le _, fun i hi => absurd hi (Nat.not_lt_zero _), fun i hi => absurd hi (Nat.not_lt_zero _), fun i hi => absurd hi (Nat.not_lt_zero _), fun i hi => absurd hi (Nat.not_lt_zero _), fun i hi => absurd hi (Nat.not_lt_zero _), fun h _ => ?_, fun h _ => Nat.zero_le _, ?_⟩
  · show (-999 : Int32) ≤ 0 ∧ (0 : Int32) ≤ 999
    decide
  · show 50 ≤ 200
    decide
theorem LI_ini : LI fini := by
  refine ⟨⟨P0, 0, fun _ => P0, ⟨fun j hj => ⟨?_, fun i hi => absurd hi (Nat.not_lt_zero _)⟩, rfl, rfl, fun h _ => rfl, fun h _ => rfl, rfl⟩, ⟨fun j hj => ⟨?_, fun i hi => absurd hi (Nat.not_lt_zero _)⟩, fun h hh => ?_, fun h hh => ?_, rfl⟩, P0_ok, ⟨Nat.zero_le _, rfl, 0, by decide, rfl, fun i hi => absurd hi (Nat.not_lt_zero _)⟩, ⟨rfl, fun i hi => absurd hi (Nat.not_lt_zero _)⟩, fun i hi => absurd hi (Nat.not_lt_zero _)⟩, Or.inl ⟨rfl, rfl⟩, ⟨0, Nat.zero_le _, rfl, rfl, fun i hi => absurd hi (Nat.not_lt_zero _), rfl⟩, rfl, fun p hp => Or.inl ?_⟩
  · match j, hj with
    | 0, _ => rfl
    | 1, _ => rfl
    | 2, _ => rfl
    | 3, _ => rfl
    | 4, _ => rfl
  · match j, hj with
    | 0, _ => rfl
    | 1, _ => rfl
    | 2, _ => rfl
    | 3, _ => rfl
    | 4, _ => rfl
  · show upd (fun _ => 0) 97 50 h = 0
    exact upd_ne (by omega)
  · show upd (fun _ => 0) 97 50 (49 + h) = nI 0
    exact upd_ne (by omega)
  · match p, hp with
    | 0, _ => exact ⟨rfl, rfl⟩
    | 1, _ => exact ⟨rfl, rfl⟩
    | 2, _ => exact ⟨rfl, rfl⟩
    | 3, _ => exact ⟨rfl, rfl⟩
    | 4, _ => exact ⟨rfl, rfl⟩
    | 5, _ => exact ⟨rfl, rfl⟩
    | 6, _ => exact ⟨rfl, rfl⟩
    | 7, _ => exact ⟨rfl, rfl⟩
    | 8, _ => exact ⟨rfl, rfl⟩
