/-! PURE: marks, walker -/
theorem st_marks : St_marks Rel := by
  intro n cap cm mm a1 a2 a3 hn hr
  have hN := hr.next (c' := cm) Sc.rf (Sm.wr0 (m := mm) 0 0 (by decide))
  rcases cell_cases a1 a2 with ⟨e1, e2⟩ | ⟨t, i, ht, hi, rfl, rfl, e1, e2⟩
  · refine ⟨_, _, -1, ?_, ?_, hN⟩
    · unfold fX8_marks
      rw [e1]; rfl
    · unfold fX9_marks
      rw [wk_eq, e2]; rfl
  · have g := hr.1 (t * 8 + i) (by omega)
    unfold fX8_marks fX9_marks
    simp only [e1, e2, wk_eq, lk_eq, if_neg one_ne, cell_eq, ent_ix, mrk_ix, wr0_1]
    simp (disch := omega) only [eq_self, l21, l12, l20, na0, Nat.reduceAdd, wk_eq, lk_eq, lkN_eq, bd_eq, bw_eq, gd_nI, nI_clamp, na1, na2, na3, na4, na5, na6, na7, na8, na9, i192, i234, i276, i326, i332, i338, i96, i0, i8, ge6F, ge6T, ge4F, ge4T, ltz, lez, Nat.one_mul, if_true, if_false, one_ne, one_eq0, zero_eq0, wr0_1, glit320, glit321, glit322, glit323, glit324, glit325, glit344, cl320, cl321, cl322, cl323, cl324, cl325, cl344]
    rw [g.1, g.2.1, show fX8_kindOf = fX9_whatOf from rfl]
    rcases in4 a3 with ⟨w, n0, n1, n2, n3, h⟩ | ⟨w, -, h1, h2, h3⟩
    · refine ⟨_, _, -1, ?_, ?_, hN⟩
      · rcases h with h | ⟨h, h'⟩
        · rw [if_pos h]
        · rw [if_neg h, if_neg h']
      · rw [w, if_pos rfl]
    · rw [if_neg h1, if_pos h2, w, if_neg one_ne]
      by_cases k0 : fX9_whatOf (mm 1 (t * 8 + i)) = 0
      · rw [if_pos k0, if_pos k0]
        exact ⟨_, _, -1, rfl, rfl, hN⟩
      · rw [if_neg k0, if_neg k0]
        refine ⟨_, _, _, rfl, rfl, ?_⟩
        obtain ⟨q1, q2, q3, q4, q5, q6, q7, q8, q9, q10, q11⟩ := hr
        have E : ∀ lo hi, 96 + (t * 8 + i) < lo ∨ hi ≤ 96 + (t * 8 + i) → Ea lo hi mm (wr (wr mm 0 0 0) 1 (96 + (t * 8 + i)) a3) := fun lo hi h => (Ea.rf.wb (by decide)).w1 h
        have K := hN.clk
        have K : Ck n (n + 1) mm (wr (wr mm 0 0 0) 1 (96 + (t * 8 + i)) a3) := Rel.ck ⟨q1, q2, q3, q4, q5, q6, q7, q8, q9, q10, q11⟩ hn (E 320 321 (by omega) 320 (by omega) (by omega))
        have C : ∀ b, b ≠ 2 → wr cm 2 (t * 8 + i) a3 b = cm b := fun b hb => wr_ne cm _ _ hb
        refine ⟨fun j hj => ?_, q2.cg (by rw [C _ (by decide)]) (C _ (by decide)) (C _ (by decide)) (E _ _ (by omega)) (E 344 345 (by omega) 344 (by omega) (by omega)), q3.cg (C _ (by decide)) (C _ (by decide)) K (E _ _ (by omega)), q4.cg (fun k hk => C _ (by omega)) (by rw [C _ (by decide)]) K (E _ _ (by omega)), q5.cg (fun k hk => C _ (by omega)) (by rw [C _ (by decide)]) K (E _ _ (by omega)), q6.cg (fun k hk => C _ (by omega)) (fun k hk => C _ (by omega)) (E _ _ (by omega)), q7.cg (fun k hk => C _ (by omega)) (E _ _ (by omega)), q8.cg (C _ (by decide)) (E _ _ (by omega)), q9.cg (by omega) (by rw [C _ (by decide)]) (C _ (by decide)) (C _ (by decide)) (by rw [wr_b _ _ _ _ (by decide), wr_i _ _ _ (by decide)]) (by rw [wr_b _ _ _ _ (by decide), wr_i _ _ _ (by decide)]) (by rw [wr_ne _ _ _ (by decide), wr_ne _ _ _ (by decide)]) (by rw [wr_ne _ _ _ (by decide), wr_ne _ _ _ (by decide)]) (by rw [wr_ne _ _ _ (by decide), wr_ne _ _ _ (by decide)]), q10.cg (by omega) (C _ (by decide)) (C _ (by decide)) (C _ (by decide)) (C _ (by decide)) (by rw [wr_b _ _ _ _ (by decide), wr_i _ _ _ (by decide)]) (by rw [wr_ne _ _ _ (by decide), wr_ne _ _ _ (by decide)]) (by rw [wr_ne _ _ _ (by decide), wr_ne _ _ _ (by decide)]), q11.cg (E _ _ (by omega)) (E _ _ (by omega))⟩
        obtain ⟨z1, z2, z3, z4⟩ := q1 j hj
        have y1 := E 0 96 (by omega) j (by omega) hj
        refine ⟨by rw [C _ (by decide), y1]; exact z1, ?_, by rw [y1]; exact z3, ?_⟩
        · by_cases hji : j = t * 8 + i
          · rw [hji, wr_same, wr_same]
          · rw [wr_i _ _ _ hji, wr_i _ _ _ (by omega), wr0_1]; exact z2
        · by_cases hji : j = t * 8 + i
          · rw [hji, wr_same]; exact h3
          · rw [wr_i _ _ _ (by omega), wr0_1]; exact z4
theorem wk_out {a : Int32} (h : a < 0 ∨ nI 4 ≤ a) : fX8_isWalker a = 0 := by
  unfold fX8_isWalker
  by_cases h1 : a < 0
  · rw [if_pos h1]
  · rw [if_neg h1, if_pos (show (4 : Int32) ≤ a from h.resolve_left h1)]
theorem wk_in {k : Nat} (h : k < 4) : fX8_isWalker (nI k) = 1 := by
  unfold fX8_isWalker
  rw [if_neg (nI_pos (by omega)), if_neg (show ¬ (4 : Int32) ≤ nI k from nI_ge h (by decide))]
theorem ne_out {a : Int32} {N j : Nat} (hj : j < N) (hN : N < 2 ^ 31) (h : a < 0 ∨ nI N ≤ a) : ¬ a = nI j := by
  intro e; subst e
  rcases h with h | h
  · exact nI_pos (by omega) h
  · exact nI_ge hj hN h
theorem st_walker : St_walker Rel := by
  intro n cap cm mm a1 a2 hn hr
  have hN := hr.next (c' := cm) Sc.rf (Sm.wr0 (m := mm) 0 0 (by decide))
  unfold fX8_walker fX9_walker
  rcases rng a1 4 (by decide) with h | ⟨w, hw, rfl⟩
  · rw [wk_out h, wk_eq, show fX9_within a1 0 3 = 0 from within_out (N := 4) (by decide) (by decide) h]
    exact ⟨_, -1, rfl, rfl, hN⟩
  · rw [wk_in hw, wk_eq, show fX9_within (nI w) 0 3 = 1 from within_in (N := 4) hw (by decide), if_neg one_ne, if_neg one_ne]
    obtain ⟨r0, r1, r2, r3, r4, r5, r6, r7, r8⟩ := hr.2.2.2.2.2.2.1 w hw
    unfold fX9_walkerOf
    rcases rng a2 6 (by decide) with h | ⟨z, hz, rfl⟩
    · rw [show fX9_within a2 0 5 = 0 from within_out (N := 6) (by decide) (by decide) h, if_pos rfl]
      refine ⟨_, -1, ?_, rfl, hN⟩
      simp (disch := omega) only [eq_self, l21, l12, l20, na0, Nat.reduceAdd, wk_eq, lk_eq, lkN_eq, bd_eq, bw_eq, gd_nI, nI_clamp, na1, na2, na3, na4, na5, na6, na7, na8, na9, i192, i234, i276, i326, i332, i338, i96, i0, i8, ge6F, ge6T, ge4F, ge4T, ltz, lez, Nat.one_mul, if_true, if_false, one_ne, one_eq0, zero_eq0, wr0_1, glit320, glit321, glit322, glit323, glit324, glit325, glit344, cl320, cl321, cl322, cl323, cl324, cl325, cl344]
      rw [if_neg (show ¬ a2 = 0 from ne_out (j := 0) (by decide) (by decide) h), if_neg (show ¬ a2 = 1 from ne_out (j := 1) (by decide) (by decide) h), if_neg (show ¬ a2 = 2 from ne_out (j := 2) (by decide) (by decide) h), if_neg (show ¬ a2 = 3 from ne_out (j := 3) (by decide) (by decide) h), if_neg (show ¬ a2 = 4 from ne_out (j := 4) (by decide) (by decide) h), if_neg (show ¬ a2 = 5 from ne_out (j := 5) (by decide) (by decide) h)]
      split <;> rfl
    · rw [show fX9_within (nI z) 0 5 = 1 from within_in (N := 6) hz (by decide), if_neg one_ne]
      simp (disch := omega) only [eq_self, l21, l12, l20, na0, Nat.reduceAdd, wk_eq, lk_eq, lkN_eq, bd_eq, bw_eq, gd_nI, nI_clamp, na1, na2, na3, na4, na5, na6, na7, na8, na9, i192, i234, i276, i326, i332, i338, i96, i0, i8, ge6F, ge6T, ge4F, ge4T, ltz, lez, Nat.one_mul, if_true, if_false, one_ne, one_eq0, zero_eq0, wr0_1, glit320, glit321, glit322, glit323, glit324, glit325, glit344, cl320, cl321, cl322, cl323, cl324, cl325, cl344]
      rw [r0, r2, r5, r6]
      rcases (show z = 0 ∨ z = 1 ∨ z = 2 ∨ z = 3 ∨ z = 4 ∨ z = 5 by omega) with rfl | rfl | rfl | rfl | rfl | rfl
      · exact ⟨_, _, rfl, rfl, hN⟩
      · by_cases s0 : mm 1 (276 + 11 * w) = 0
        · exact ⟨_, -1, by rw [if_neg (by decide), if_pos s0], by rw [if_neg (by decide), if_pos (by decide), if_pos s0], hN⟩
        · exact ⟨_, _, by rw [if_neg (by decide), if_neg s0, if_pos (by decide)], by rw [if_neg (by decide), if_pos (by decide), if_neg s0], hN⟩
      · by_cases s0 : mm 1 (276 + 11 * w) = 0
        · exact ⟨_, -1, by rw [if_neg (by decide), if_pos s0], by rw [if_neg (by decide), if_neg (by decide), if_pos (by decide), if_pos s0], hN⟩
        · exact ⟨_, _, by rw [if_neg (by decide), if_neg s0, if_neg (by decide), if_pos (by decide)], by rw [if_neg (by decide), if_neg (by decide), if_pos (by decide), if_neg s0], hN⟩
      · by_cases s2 : mm 1 (276 + 11 * w) = 2
        · refine ⟨_, _, by rw [if_neg (by decide), if_neg (by rw [s2]; decide), if_neg (by decide), if_neg (by decide), if_pos (by decide), if_pos s2, r8 (Or.inl s2)], by rw [if_neg (by decide), if_neg (by decide), if_neg (by decide), if_pos (by decide), if_pos s2], hN⟩
        · by_cases s3 : mm 1 (276 + 11 * w) = 3
          · refine ⟨_, _, by rw [if_neg (by decide), if_neg (by rw [s3]; decide), if_neg (by decide), if_neg (by decide), if_pos (by decide), if_neg s2, if_pos s3, r8 (Or.inr s3)], by rw [if_neg (by decide), if_neg (by decide), if_neg (by decide), if_pos (by decide), if_neg s2, if_pos s3], hN⟩
          · refine ⟨_, -1, ?_, by rw [if_neg (by decide), if_neg (by decide), if_neg (by decide), if_pos (by decide), if_neg s2, if_neg s3], hN⟩
            by_cases s0 : mm 1 (276 + 11 * w) = 0
            · rw [if_neg (by decide), if_pos s0]
            · rw [if_neg (by decide), if_neg s0, if_neg (by decide), if_neg (by decide), if_pos (by decide), if_neg s2, if_neg s3]
      · by_cases s1 : mm 1 (276 + 11 * w) = 1
        · refine ⟨_, _, by rw [if_neg (by decide), if_neg (by rw [s1]; decide), if_neg (by decide), if_neg (by decide), if_neg (by decide), if_pos (by decide), if_pos s1, (r7 s1).1], by rw [if_neg (by decide), if_neg (by decide), if_neg (by decide), if_neg (by decide), if_pos (by decide), if_pos s1], hN⟩
        · refine ⟨_, -1, ?_, by rw [if_neg (by decide), if_neg (by decide), if_neg (by decide), if_neg (by decide), if_pos (by decide), if_neg s1], hN⟩
          by_cases s0 : mm 1 (276 + 11 * w) = 0
          · rw [if_neg (by decide), if_pos s0]
          · rw [if_neg (by decide), if_neg s0, if_neg (by decide), if_neg (by decide), if_neg (by decide), if_pos (by decide), if_neg s1]
      · by_cases s0 : mm 1 (276 + 11 * w) = 0
        · exact ⟨_, -1, by rw [if_neg (by decide), if_pos s0], by rw [if_neg (by decide), if_neg (by decide), if_neg (by decide), if_neg (by decide), if_neg (by decide), if_pos s0], hN⟩
        · exact ⟨_, _, by rw [if_neg (by decide), if_neg s0, if_neg (by decide), if_neg (by decide), if_neg (by decide), if_neg (by decide), if_pos (by decide)], by rw [if_neg (by decide), if_neg (by decide), if_neg (by decide), if_neg (by decide), if_neg (by decide), if_neg s0], hN⟩
