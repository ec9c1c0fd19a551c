/-! PURE 72: the pure statement -/
theorem Mini_Rel {fa fb : Nat → Int32} (ha : ∀ j, j < 25 → fa j = -1) (hb : ∀ j, j < 6 → fb j = -1) : Rel (Mini fa fb) := by
  refine ⟨0, 0, 0, 0, 1, 1, fun _ => 0, DOK0.1, ⟨?_, ?_, ?_, fun p hp => ⟨?_, ?_, ?_, ?_⟩⟩, ⟨?_, ?_, ?_, ?_, ?_, ?_, fun p hp => ?_⟩, ⟨0, by decide, ?_, ?_⟩, ⟨0, by decide, ?_, ?_, fun i hi => absurd hi (by omega)⟩, ?_, ⟨0, by decide, ?_, ?_, fun i hi => absurd hi (by omega)⟩, ⟨Or.inl ⟨?_, ?_⟩, Or.inl ⟨?_, ?_⟩⟩, ⟨fun a b h1 h2 h3 h4 => Or.inl ?_, fun n h1 h2 => Or.inl ?_⟩⟩
  · rfl
  · rfl
  · rfl
  · rw [rwo_0]; rfl
  · rw [rwo_0]; rfl
  · rw [rwo_0]; rfl
  · rfl
  · rfl
  · rfl
  · rfl
  · rfl
  · rfl
  · rfl
  · rfl
  · rfl
  · rfl
  · rfl
  · rfl
  · rfl
  · rfl
  · rfl
  · rfl
  · rfl
  · rfl
  · rfl
  · exact ha (5 * a + b) (by omega)
  · exact hb n (by omega)
theorem pure_law : PureLaw := fun G hn fa fb ha hb => by
  obtain ⟨K, M', h⟩ := law_loop hn 512 0 (Mini fa fb) (by omega) (by omega) (Mini_Rel ha hb)
  exact ⟨K + 513, M', h (K + 513) (K + 513) (by omega) (by omega)⟩
