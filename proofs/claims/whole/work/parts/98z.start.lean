/-! PURE: the relation at the start; all steps -/
theorem mS1 : ∀ i, i < 192 → memM0 1 i = 0 := by decide +kernel
theorem mS2 : ∀ k, k < 6 → memM0 1 (192 + 7 * k) = -1 ∧ memM0 1 (234 + 7 * k) = -1 := by decide +kernel
theorem mS3 : ∀ i, i < 50 → memM0 1 (276 + i) = 0 := by decide +kernel
theorem mS4 : ∀ s, s < 6 → memM0 1 (326 + s) = -1 ∧ memM0 1 (332 + s) = -1 ∧ memM0 1 (338 + s) = 0 := by decide +kernel
theorem mS5 : memM0 1 344 = -1 := by decide +kernel
theorem cS1 : ∀ s, s < 6 → memC0 4 s = -1 ∧ memC0 5 s = -1 := by decide +kernel
theorem cS2 : ∀ k, k < 6 → memC0 (9 + k) 0 = 0 ∧ memC0 (17 + k) 0 = 0 := by decide +kernel
theorem cS3 : ∀ k, k < 4 → ∀ i, i < 10 → memC0 (24 + 2 * k) i = 0 := by decide +kernel
theorem mS6 {i : Nat} (h1 : 276 ≤ i) (h2 : i < 326) : memM0 1 i = 0 := by
  have := mS3 (i - 276) (by omega)
  rw [show 276 + (i - 276) = i by omega] at this
  exact this
theorem rel_start : Rel 0 8 memC0 memM0 := by
  have z1 : ∀ {x : Int32}, x = 0 → ¬ x = 1 := fun h h2 => by rw [h] at h2; exact absurd h2 (by decide)
  have e320 : memM0 1 320 = nI 0 := mS6 (by decide) (by decide)
  refine ⟨fun i hi => ?_, ⟨fun s hs => ?_, ?_, ?_, fun s t hs ht h1 h2 => ?_, fun s hs h => ?_⟩, ⟨fun _ => 0, fun _ => 0, 0, 0, rfl, Nat.le_refl _, e320, Nat.le_refl _, fun s hs => ?_, fun s t _ _ _ _ _ _ => Iff.rfl⟩, ⟨fun _ => 0, fun _ => 0, 0, 0, rfl, Nat.le_refl _, e320, Nat.le_refl _, fun k hk => Or.inr ⟨(cS2 k hk).1, (mS2 k hk).1⟩, fun j k hj hk h => absurd h (z1 (cS2 j hj).1), fun j k hj hk h => absurd h (z1 (cS2 j hj).1)⟩, ⟨fun _ => 0, fun _ => 0, 0, 0, rfl, Nat.le_refl _, e320, Nat.le_refl _, fun k hk => Or.inr ⟨(cS2 k hk).2, (mS2 k hk).2⟩, fun j k hj hk h => absurd h (z1 (cS2 j hj).2), fun j k hj hk h => absurd h (z1 (cS2 j hj).2)⟩, ⟨fun k hk h => absurd h (z1 (cS2 k hk).1), fun k hk h => absurd h (z1 (cS2 k hk).2)⟩, fun k hk => ?_, ?_, ⟨0, Nat.le_refl _, rfl, rfl, rfl, fun j hj => by omega⟩, ⟨rfl, ⟨0, by decide, rfl⟩, fun s hs => ⟨rfl, ⟨0, by decide, rfl⟩⟩, Or.inl rfl, 0, Nat.le_refl _, by decide, rfl, fun j hj => by omega, fun i j hi => by omega, fun z hz => Or.inr ⟨fun j hj => by omega, rfl⟩⟩, ⟨fun k hk h => absurd (mS2 k hk).1 h, fun k hk h => absurd (mS2 k hk).2 h, fun k hk h => ?_⟩⟩
  · rw [mS1 i (by omega), mS1 (96 + i) (by omega)]
    exact ⟨rfl, rfl, ⟨0, 0, 0, rfl, Or.inl ⟨rfl, rfl, rfl⟩⟩, ⟨0, by decide, rfl⟩⟩
  · rw [(cS1 s hs).1, (cS1 s hs).2, (mS4 s hs).1, (mS4 s hs).2.1]
    exact ⟨rfl, rfl, Or.inl rfl, Or.inl rfl⟩
  · rw [mS5]; rfl
  · rw [mS5]; exact Or.inl rfl
  · exact absurd (mS4 s hs).2.1 h2
  · rw [mS5, m1n (by omega)] at h
    exact h.elim
  · exact ⟨rfl, (mS4 s hs).2.2, Nat.le_refl _, Nat.le_refl _⟩
  · unfold RW1
    rw [cS3 k hk 0 (by decide), cS3 k hk 1 (by decide), cS3 k hk 2 (by decide), cS3 k hk 3 (by decide), cS3 k hk 4 (by decide), cS3 k hk 8 (by decide), mS6 (i := 276 + 11 * k) (by omega) (by omega), mS6 (i := 276 + 11 * k + 1) (by omega) (by omega), mS6 (i := 276 + 11 * k + 2) (by omega) (by omega), mS6 (i := 276 + 11 * k + 3) (by omega) (by omega), mS6 (i := 276 + 11 * k + 9) (by omega) (by omega), mS6 (i := 276 + 11 * k + 4) (by omega) (by omega)]
    exact ⟨rfl, ⟨0, by decide, rfl⟩, rfl, rfl, rfl, rfl, rfl, fun h => absurd h (by decide), fun h => absurd h (by decide)⟩
  · exact ⟨(mS6 (by decide) (by decide)).symm, (mS6 (by decide) (by decide)).symm, (mS6 (by decide) (by decide)).symm, (mS6 (by decide) (by decide)).symm, (mS6 (by decide) (by decide)).symm⟩
  · rw [mS6 (by omega) (by omega)] at h
    exact absurd h (by decide)
theorem rel_steps : Steps_all Rel := ⟨fun _ _ _ _ h => h.mono, st_entry, st_marks, st_root, st_current, st_access, st_would, st_steps, st_begin, st_turn, st_walker, st_fence, st_fenceSpace, st_fenceAll, st_way, st_of, st_cached, st_upper, st_permitted, st_many, st_reverse, st_through, st_space, st_count⟩
