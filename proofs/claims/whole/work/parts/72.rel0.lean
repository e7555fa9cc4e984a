/-! new objects -/
theorem Rel0 : Rel S0C S0M := by
  refine ⟨⟨rfl, rfl, rfl, rfl, rfl, rfl, rfl, rfl⟩, ⟨⟨7, by decide, rfl⟩, ⟨4, by decide, by decide, rfl⟩, ⟨0, by decide, rfl⟩, fun j _ => ⟨0, by decide, rfl⟩, fun j _ => ⟨0, by decide, rfl⟩, fun j _ => ?_, fun _ => 0, fun j _ => ⟨show 0 < 256 by decide, rfl⟩, fun i j _ _ => by simp, fun j _ => show fb_ct (fun i => (0 : Nat).testBit i) 8 ≤ 3 by decide⟩, ⟨rfl, Or.inl rfl⟩, fun s hs => ?_, fun h hh => ?_⟩
  · show -99 ≤ (0 : Int32).toInt ∧ (0 : Int32).toInt ≤ 99
    decide
  · rcases (show s = 0 ∨ s = 1 ∨ s = 2 ∨ s = 3 by omega) with rfl | rfl | rfl | rfl
    · exact ⟨by decide, by decide, Or.inl (by decide), 0, by decide, rfl, fun i h => absurd h (Nat.not_lt_zero i)⟩
    · exact ⟨by decide, by decide, Or.inl (by decide), 0, by decide, rfl, fun i h => absurd h (Nat.not_lt_zero i)⟩
    · exact ⟨by decide, by decide, Or.inl (by decide), 0, by decide, rfl, fun i h => absurd h (Nat.not_lt_zero i)⟩
    · exact ⟨by decide, by decide, Or.inl (by decide), 0, by decide, rfl, fun i h => absurd h (Nat.not_lt_zero i)⟩
  · have z : ∀ i, i < 6 → 0 ≤ (S0M.1 14 (6 * h + i)).toInt := fun i _ => by
      show 0 ≤ (0 : Int32).toInt
      decide
    rcases (show h = 0 ∨ h = 1 ∨ h = 2 ∨ h = 3 by omega) with rfl | rfl | rfl | rfl
    · exact ⟨rfl, rfl, rfl, rfl, fun i _ => rfl, Or.inl rfl, ⟨0, by decide, rfl⟩, ⟨0, by decide, rfl⟩, z⟩
    · exact ⟨rfl, rfl, rfl, rfl, fun i _ => rfl, Or.inl rfl, ⟨0, by decide, rfl⟩, ⟨0, by decide, rfl⟩, z⟩
    · exact ⟨rfl, rfl, rfl, rfl, fun i _ => rfl, Or.inl rfl, ⟨0, by decide, rfl⟩, ⟨0, by decide, rfl⟩, z⟩
    · exact ⟨rfl, rfl, rfl, rfl, fun i _ => rfl, Or.inl rfl, ⟨0, by decide, rfl⟩, ⟨0, by decide, rfl⟩, z⟩
