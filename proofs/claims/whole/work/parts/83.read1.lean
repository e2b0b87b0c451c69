/-! PURE: space, of, marks, walker -/
theorem one_ne : ¬ (1 : Int32) = 0 := by decide
theorem wr0_1 (m : Mm) (i : Nat) (v : Int32) : wr m 0 i v 1 = m 1 := wr_ne m i v (by decide)
theorem ix2 {a b : Nat} (h : a + b < 2 ^ 31) : (nI a + nI b).toNatClampNeg = a + b := by rw [nI_add, nI_clamp h]
theorem st_space : St_space Rel := by
  intro n cap cm mm a1 a2 _ hr
  have hN := hr.next (c' := cm) Sc.rf (Sm.wr0 (m := mm) 0 0 (by decide))
  rcases rng a1 6 (by decide) with h | ⟨s, hs, rfl⟩
  · obtain ⟨e1, e2⟩ := sp_out h
    refine ⟨_, -1, ?_, ?_, hN⟩
    · unfold fX8_space
      rw [e1]; rfl
    · unfold fX9_space
      rw [wk_eq, e2]; rfl
  · obtain ⟨e1, e2⟩ := sp_in hs
    obtain ⟨hS, hcur, -⟩ := hr.2.1
    obtain ⟨g1, g2, -⟩ := hS s hs
    unfold fX8_space fX9_space
    simp only [e1, e2, wk_eq, if_neg one_ne]
    by_cases c0 : a2 = 0
    · refine ⟨_, cm 4 s, ?_, ?_, hN⟩
      · rw [if_pos c0, gd_nI hs (by decide), nI_clamp (by omega)]
      · rw [if_pos c0, show (326 : Int32) = nI 326 from rfl, nI_add, gd_nI (by omega) (by decide), nI_clamp (by omega), wr0_1, g1]
    · by_cases c1 : a2 = 1
      · refine ⟨_, cm 5 s, ?_, ?_, hN⟩
        · rw [if_neg c0, if_pos c1, gd_nI hs (by decide), nI_clamp (by omega)]
        · rw [if_neg c0, if_pos c1, show (332 : Int32) = nI 332 from rfl, nI_add, gd_nI (by omega) (by decide), nI_clamp (by omega), wr0_1, g2]
      · by_cases c2 : a2 = 2
        · by_cases c3 : mm 1 344 = nI s
          · refine ⟨_, 1, ?_, ?_, hN⟩
            · rw [if_neg c0, if_neg c1, if_pos c2, hcur, if_pos c3]
            · rw [if_neg c0, if_neg c1, if_pos c2, show (344 : Int32) = nI 344 from rfl, gd_nI (by omega) (by decide), nI_clamp (by omega), wr0_1, if_pos c3]
          · refine ⟨_, 0, ?_, ?_, hN⟩
            · rw [if_neg c0, if_neg c1, if_pos c2, hcur, if_neg c3]
            · rw [if_neg c0, if_neg c1, if_pos c2, show (344 : Int32) = nI 344 from rfl, gd_nI (by omega) (by decide), nI_clamp (by omega), wr0_1, if_neg c3]
        · refine ⟨_, -1, ?_, ?_, hN⟩
          · rw [if_neg c0, if_neg c1, if_neg c2]
          · rw [if_neg c0, if_neg c1, if_neg c2]
/-- where the reference keeps an entry, and its marks -/
theorem ent_ix (t i : Nat) : ((0 : Int32) + ((8 : Int32) * nI t)) + nI i = nI (t * 8 + i) := by
  rw [show (0 : Int32) = nI 0 from rfl, show (8 : Int32) = nI 8 from rfl, nI_mul, nI_add, nI_add]
  congr 1; omega
theorem mrk_ix (t i : Nat) : ((96 : Int32) + ((8 : Int32) * nI t)) + nI i = nI (96 + (t * 8 + i)) := by
  rw [show (96 : Int32) = nI 96 from rfl, show (8 : Int32) = nI 8 from rfl, nI_mul, nI_add, nI_add]
  congr 1; omega
theorem in4 (a : Int32) : (fX9_within a (0 : Int32) (3 : Int32) = 0 ∧ ¬ a = 0 ∧ ¬ a = 1 ∧ ¬ a = 2 ∧ ¬ a = 3 ∧ (a < 0 ∨ (¬ a < 0 ∧ ¬ a ≤ 3))) ∨ (fX9_within a (0 : Int32) (3 : Int32) = 1 ∧ (a = 0 ∨ a = 1 ∨ a = 2 ∨ a = 3) ∧ ¬ a < 0 ∧ a ≤ 3 ∧ Vk 4 a) := by
  rcases rng a 4 (by decide) with h | ⟨k, hk, rfl⟩
  · left
    refine ⟨within_out (N := 4) (by decide) (by decide) h, ?_, ?_, ?_, ?_, ?_⟩
    · intro e; subst e; rcases h with h | h <;> revert h <;> decide
    · intro e; subst e; rcases h with h | h <;> revert h <;> decide
    · intro e; subst e; rcases h with h | h <;> revert h <;> decide
    · intro e; subst e; rcases h with h | h <;> revert h <;> decide
    · by_cases h1 : a < 0
      · exact Or.inl h1
      · refine Or.inr ⟨h1, fun h2 => ?_⟩
        have h3 := h.resolve_left h1
        rw [fa_le] at h2 h3
        have e1 : (nI 4).toInt = 4 := by decide
        have e2 : (3 : Int32).toInt = 3 := by decide
        omega
  · right
    refine ⟨within_in (N := 4) hk (by decide), ?_, nI_pos (by omega), nI_le (a := k) (b := 3) (by omega) (by decide), k, hk, rfl⟩
    rcases (show k = 0 ∨ k = 1 ∨ k = 2 ∨ k = 3 by omega) with rfl | rfl | rfl | rfl
    · exact Or.inl rfl
    · exact Or.inr (Or.inl rfl)
    · exact Or.inr (Or.inr (Or.inl rfl))
    · exact Or.inr (Or.inr (Or.inr rfl))
theorem st_of : St_of Rel := by
  intro n cap cm mm a1 a2 a3 _ hr
  have hN := hr.next (c' := cm) Sc.rf (Sm.wr0 (m := mm) 0 0 (by decide))
  rcases cell_cases a1 a2 with ⟨e1, e2⟩ | ⟨t, i, ht, hi, rfl, rfl, e1, e2⟩
  · refine ⟨_, -1, ?_, ?_, hN⟩
    · unfold fX8_of
      rw [e1]; rfl
    · unfold fX9_of
      rw [wk_eq, e2]; rfl
  · obtain ⟨g1, g2, -⟩ := hr.1 (t * 8 + i) (by omega)
    unfold fX8_of fX9_of
    simp only [e1, e2, wk_eq, lk_eq, if_neg one_ne, cell_eq, ent_ix, mrk_ix, wr0_1]
    rw [gd_nI (show t * 8 + i < 96 by omega) (by decide), gd_nI (show t * 8 + i < 96 by omega) (by decide), gd_nI (show t * 8 + i < 345 by omega) (by decide), gd_nI (show 96 + (t * 8 + i) < 345 by omega) (by decide), nI_clamp (show t * 8 + i < 2 ^ 31 by omega), nI_clamp (show 96 + (t * 8 + i) < 2 ^ 31 by omega), g1, g2]
    unfold fX8_kindOf fX9_whatOf fX8_targetOf fX9_targetOf fX8_rightsOf fX9_rightsOf
    generalize mm 1 (t * 8 + i) = v
    generalize mm 1 (96 + (t * 8 + i)) = u
    rcases in4 a3 with ⟨w, n0, n1, n2, n3, -⟩ | ⟨w, h, -⟩
    · refine ⟨_, -1, ?_, ?_, hN⟩
      · rw [if_neg n0, if_neg n1, if_neg n2, if_neg n3]
        split <;> rfl
      · rw [w, if_pos rfl]
    · rw [w, if_neg one_ne]
      by_cases k0 : v &&& 3 = 0
      · simp only [k0, if_true]
        rcases h with rfl | rfl | rfl | rfl
        · exact ⟨_, _, rfl, rfl, hN⟩
        · exact ⟨_, _, rfl, rfl, hN⟩
        · exact ⟨_, _, rfl, rfl, hN⟩
        · exact ⟨_, _, rfl, rfl, hN⟩
      · simp only [k0, if_false]
        rcases h with rfl | rfl | rfl | rfl
        · exact ⟨_, _, rfl, rfl, hN⟩
        · exact ⟨_, _, rfl, rfl, hN⟩
        · exact ⟨_, _, rfl, rfl, hN⟩
        · exact ⟨_, _, rfl, rfl, hN⟩
