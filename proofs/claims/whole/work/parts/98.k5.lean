/-! the state behind both constructors keeps the invariant -/
theorem Inv0 : Inv σ0 := by
  have hL : Ln 2 (fun _ _ => 0) = [] := Ln_zero (fun _ _ _ _ => rfl)
  refine ⟨2, fun _ _ => 0, [], 0, 0, ⟨wok0 (by omega) (by omega), ⟨rfl, ?_, fun u v _ _ => rfl, ?_⟩, rfl, ?_, ?_⟩, ⟨Nat.zero_le _, rfl, rfl, trivial⟩, ⟨Or.inl ⟨rfl, rfl⟩, Or.inl ⟨rfl, rfl⟩⟩, ⟨Nat.zero_le _, rfl, rfl, fun i h => absurd h (Nat.not_lt_zero _)⟩, ⟨Nat.zero_le _, rfl, rfl, fun i h => absurd h (Nat.not_lt_zero _)⟩, Or.inl ⟨rfl, rfl⟩⟩
  · rw [hL]; rfl
  · rw [hL]; intro i e h; simp at h
  · rw [hL]; rfl
  · rw [hL]; intro i e h; simp at h
