/-! PURE: count -/
theorem held_both {n q a : Nat} {c m : Mm} (h : RP n (q + 1 + 1) q a c m) (ha : a < 300) : ∃ r, fX5_held c q = some r ∧ fX9_manyIn m (nI a) 0 = some (m, r) := by
  have key := down (P := fun f k => ∀ acc, ∃ r, fX5_held_b4 f c q acc (nI k) = some r ∧ fX9_manyIn_b5 f m (nI a) 0 acc (nI k) = some (m, r)) 6 ?_ ?_ 6 0 2000 rfl (by decide) 0
  · exact key
  · intro f acc
    exact ⟨acc, rfl, rfl⟩
  · intro f k hk ih acc
    have L8 : fX5_held_b4 (f + 1) c q acc (nI k) = fX5_held_b4_s (fX5_held_b4 f) c q acc (nI k) := rfl
    have L9 : fX9_manyIn_b5 (f + 1) m (nI a) 0 acc (nI k) = fX9_manyIn_b5_s (fX9_manyIn_b5 f) m (nI a) 0 acc (nI k) := rfl
    rw [L8, L9]
    unfold fX5_held_b4_s fX9_manyIn_b5_s fX9_manyIn_b67
    rcases h.dich hk with ⟨f1, -, g, hg, eg⟩ | ⟨f0, eg⟩
    · have em := emp_f (m := m) (A := a + 7 * k) (by omega) hg eg
      simp (disch := omega) only [eq_self, l21, l12, l20, na0, Nat.reduceAdd, wk_eq, lk_eq, lkN_eq, bd_eq, bw_eq, gd_nI, nI_clamp, na1, na2, na3, na4, na5, na6, na7, na8, na9, i192, i234, i276, i326, i332, i338, i96, i0, i8, ge6F, ge6T, ge4F, ge4T, ltz, lez, Nat.one_mul, if_true, if_false, one_ne, one_eq0, zero_eq0, wr0_1, glit320, glit321, glit322, glit323, glit324, glit325, glit344, cl320, cl321, cl322, cl323, cl324, cl325, cl344, iA, em, f1]
      exact ih _
    · have em := emp_t (m := m) (A := a + 7 * k) (by omega) eg
      simp (disch := omega) only [eq_self, l21, l12, l20, na0, Nat.reduceAdd, wk_eq, lk_eq, lkN_eq, bd_eq, bw_eq, gd_nI, nI_clamp, na1, na2, na3, na4, na5, na6, na7, na8, na9, i192, i234, i276, i326, i332, i338, i96, i0, i8, ge6F, ge6T, ge4F, ge4T, ltz, lez, Nat.one_mul, if_true, if_false, one_ne, one_eq0, zero_eq0, wr0_1, glit320, glit321, glit322, glit323, glit324, glit325, glit344, cl320, cl321, cl322, cl323, cl324, cl325, cl344, iA, em, f0]
      exact ih _
theorem stp_both {n cap : Nat} {c m : Mm} (hr : Rel n cap c m) : ∃ c' m' r, fX8_stalePages c = some (c', r) ∧ fX9_manyIn m 192 1 = some (m', r) ∧ Sc c c' ∧ Sm m m' := by
  have key := down (P := fun f k => ∀ (c m : Mm) (acc : Int32), Rel n cap c m → ∃ c' m' r, fX8_stalePages_b4 f c acc (nI k) = some (c', r) ∧ fX9_manyIn_b5 f m 192 1 acc (nI k) = some (m', r) ∧ Sc c c' ∧ Sm m m') 6 ?_ ?_ 6 0 2000 rfl (by decide) c m 0 hr
  · exact key
  · intro f c m acc _
    exact ⟨c, m, acc, rfl, rfl, Sc.rf, Sm.rf⟩
  · intro f k hk ih c m acc hr
    have L8 : fX8_stalePages_b4 (f + 1) c acc (nI k) = fX8_stalePages_b4_s (fX8_stalePages_b4 f) c acc (nI k) := rfl
    have L9 : fX9_manyIn_b5 (f + 1) m 192 1 acc (nI k) = fX9_manyIn_b5_s (fX9_manyIn_b5 f) m 192 1 acc (nI k) := rfl
    rw [L8, L9]
    unfold fX8_stalePages_b4_s fX9_manyIn_b5_s fX9_manyIn_b67
    rcases hr.2.2.2.1.dich hk with ⟨f1, -, g, hg, eg⟩ | ⟨f0, eg⟩
    · have em := emp_f (m := m) (A := 192 + 7 * k) (by omega) hg eg
      obtain ⟨c1, m1, r, s1, s2, s3, s4, -, s6⟩ := stale_pg hr hk f1
      simp (disch := omega) only [eq_self, l21, l12, l20, na0, Nat.reduceAdd, wk_eq, lk_eq, lkN_eq, bd_eq, bw_eq, gd_nI, nI_clamp, na1, na2, na3, na4, na5, na6, na7, na8, na9, i192, i234, i276, i326, i332, i338, i96, i0, i8, ge6F, ge6T, ge4F, ge4T, ltz, lez, Nat.one_mul, if_true, if_false, one_ne, one_eq0, zero_eq0, wr0_1, glit320, glit321, glit322, glit323, glit324, glit325, glit344, cl320, cl321, cl322, cl323, cl324, cl325, cl344, em, f1, s1, s2]
      rcases s6 with rfl | rfl
      · obtain ⟨c', m', r, j1, j2, j3, j4⟩ := ih c1 m1 (acc + 0) (hr.scr s3 s4)
        simp (disch := omega) only [eq_self, l21, l12, l20, na0, Nat.reduceAdd, wk_eq, lk_eq, lkN_eq, bd_eq, bw_eq, gd_nI, nI_clamp, na1, na2, na3, na4, na5, na6, na7, na8, na9, i192, i234, i276, i326, i332, i338, i96, i0, i8, ge6F, ge6T, ge4F, ge4T, ltz, lez, Nat.one_mul, if_true, if_false, one_ne, one_eq0, zero_eq0, wr0_1, glit320, glit321, glit322, glit323, glit324, glit325, glit344, cl320, cl321, cl322, cl323, cl324, cl325, cl344]
        rw [Int32.add_zero] at j1 j2 ⊢
        exact ⟨c', m', r, j1, j2, s3.tr j3, s4.tr j4⟩
      · obtain ⟨c', m', r, j1, j2, j3, j4⟩ := ih c1 m1 (acc + 1) (hr.scr s3 s4)
        simp (disch := omega) only [eq_self, l21, l12, l20, na0, Nat.reduceAdd, wk_eq, lk_eq, lkN_eq, bd_eq, bw_eq, gd_nI, nI_clamp, na1, na2, na3, na4, na5, na6, na7, na8, na9, i192, i234, i276, i326, i332, i338, i96, i0, i8, ge6F, ge6T, ge4F, ge4T, ltz, lez, Nat.one_mul, if_true, if_false, one_ne, one_eq0, zero_eq0, wr0_1, glit320, glit321, glit322, glit323, glit324, glit325, glit344, cl320, cl321, cl322, cl323, cl324, cl325, cl344]
        exact ⟨c', m', r, j1, j2, s3.tr j3, s4.tr j4⟩
    · have em := emp_t (m := m) (A := 192 + 7 * k) (by omega) eg
      simp (disch := omega) only [eq_self, l21, l12, l20, na0, Nat.reduceAdd, wk_eq, lk_eq, lkN_eq, bd_eq, bw_eq, gd_nI, nI_clamp, na1, na2, na3, na4, na5, na6, na7, na8, na9, i192, i234, i276, i326, i332, i338, i96, i0, i8, ge6F, ge6T, ge4F, ge4T, ltz, lez, Nat.one_mul, if_true, if_false, one_ne, one_eq0, zero_eq0, wr0_1, glit320, glit321, glit322, glit323, glit324, glit325, glit344, cl320, cl321, cl322, cl323, cl324, cl325, cl344, em, f0]
      exact ih _ _ _ hr
theorem stu_both {n cap : Nat} {c m : Mm} (hr : Rel n cap c m) : ∃ c' m' r, fX8_staleUppers c = some (c', r) ∧ fX9_manyIn m 234 1 = some (m', r) ∧ Sc c c' ∧ Sm m m' := by
  have key := down (P := fun f k => ∀ (c m : Mm) (acc : Int32), Rel n cap c m → ∃ c' m' r, fX8_staleUppers_b4 f c acc (nI k) = some (c', r) ∧ fX9_manyIn_b5 f m 234 1 acc (nI k) = some (m', r) ∧ Sc c c' ∧ Sm m m') 6 ?_ ?_ 6 0 2000 rfl (by decide) c m 0 hr
  · exact key
  · intro f c m acc _
    exact ⟨c, m, acc, rfl, rfl, Sc.rf, Sm.rf⟩
  · intro f k hk ih c m acc hr
    have L8 : fX8_staleUppers_b4 (f + 1) c acc (nI k) = fX8_staleUppers_b4_s (fX8_staleUppers_b4 f) c acc (nI k) := rfl
    have L9 : fX9_manyIn_b5 (f + 1) m 234 1 acc (nI k) = fX9_manyIn_b5_s (fX9_manyIn_b5 f) m 234 1 acc (nI k) := rfl
    rw [L8, L9]
    unfold fX8_staleUppers_b4_s fX9_manyIn_b5_s fX9_manyIn_b67
    have ne : ((234 : Int32) = 192) = False := eq_false (by decide)
    rcases hr.2.2.2.2.1.dich hk with ⟨f1, -, g, hg, eg⟩ | ⟨f0, eg⟩
    · have em := emp_f (m := m) (A := 234 + 7 * k) (by omega) hg eg
      obtain ⟨c1, m1, r, s1, s2, s3, s4, -, s6⟩ := stale_up hr hk f1
      simp (disch := omega) only [eq_self, l21, l12, l20, na0, Nat.reduceAdd, wk_eq, lk_eq, lkN_eq, bd_eq, bw_eq, gd_nI, nI_clamp, na1, na2, na3, na4, na5, na6, na7, na8, na9, i192, i234, i276, i326, i332, i338, i96, i0, i8, ge6F, ge6T, ge4F, ge4T, ltz, lez, Nat.one_mul, if_true, if_false, one_ne, one_eq0, zero_eq0, wr0_1, glit320, glit321, glit322, glit323, glit324, glit325, glit344, cl320, cl321, cl322, cl323, cl324, cl325, cl344, em, f1, s1, s2, ne]
      rcases s6 with rfl | rfl
      · obtain ⟨c', m', r, j1, j2, j3, j4⟩ := ih c1 m1 (acc + 0) (hr.scr s3 s4)
        simp (disch := omega) only [eq_self, l21, l12, l20, na0, Nat.reduceAdd, wk_eq, lk_eq, lkN_eq, bd_eq, bw_eq, gd_nI, nI_clamp, na1, na2, na3, na4, na5, na6, na7, na8, na9, i192, i234, i276, i326, i332, i338, i96, i0, i8, ge6F, ge6T, ge4F, ge4T, ltz, lez, Nat.one_mul, if_true, if_false, one_ne, one_eq0, zero_eq0, wr0_1, glit320, glit321, glit322, glit323, glit324, glit325, glit344, cl320, cl321, cl322, cl323, cl324, cl325, cl344]
        rw [Int32.add_zero] at j1 j2 ⊢
        exact ⟨c', m', r, j1, j2, s3.tr j3, s4.tr j4⟩
      · obtain ⟨c', m', r, j1, j2, j3, j4⟩ := ih c1 m1 (acc + 1) (hr.scr s3 s4)
        simp (disch := omega) only [eq_self, l21, l12, l20, na0, Nat.reduceAdd, wk_eq, lk_eq, lkN_eq, bd_eq, bw_eq, gd_nI, nI_clamp, na1, na2, na3, na4, na5, na6, na7, na8, na9, i192, i234, i276, i326, i332, i338, i96, i0, i8, ge6F, ge6T, ge4F, ge4T, ltz, lez, Nat.one_mul, if_true, if_false, one_ne, one_eq0, zero_eq0, wr0_1, glit320, glit321, glit322, glit323, glit324, glit325, glit344, cl320, cl321, cl322, cl323, cl324, cl325, cl344]
        exact ⟨c', m', r, j1, j2, s3.tr j3, s4.tr j4⟩
    · have em := emp_t (m := m) (A := 234 + 7 * k) (by omega) eg
      simp (disch := omega) only [eq_self, l21, l12, l20, na0, Nat.reduceAdd, wk_eq, lk_eq, lkN_eq, bd_eq, bw_eq, gd_nI, nI_clamp, na1, na2, na3, na4, na5, na6, na7, na8, na9, i192, i234, i276, i326, i332, i338, i96, i0, i8, ge6F, ge6T, ge4F, ge4T, ltz, lez, Nat.one_mul, if_true, if_false, one_ne, one_eq0, zero_eq0, wr0_1, glit320, glit321, glit322, glit323, glit324, glit325, glit344, cl320, cl321, cl322, cl323, cl324, cl325, cl344, em, f0]
      exact ih _ _ _ hr
theorem mark_both {c m : Mm} (h : RT c m) (mk : Int32) : ∃ r, fX8_entriesMarked c mk = some r ∧ fX9_marked m mk = some r := by
  have key := down (P := fun f k => ∀ acc, ∃ r, fX8_entriesMarked_b4 f c mk acc (nI k) = some r ∧ fX9_marked_b4 f m mk acc (nI k) = some r) 96 ?_ ?_ 96 0 2000 rfl (by decide) 0
  · exact key
  · intro f acc
    exact ⟨acc, rfl, rfl⟩
  · intro f k hk ih acc
    have L8 : fX8_entriesMarked_b4 (f + 1) c mk acc (nI k) = fX8_entriesMarked_b4_s (fX8_entriesMarked_b4 f) c mk acc (nI k) := rfl
    have L9 : fX9_marked_b4 (f + 1) m mk acc (nI k) = fX9_marked_b4_s (fX9_marked_b4 f) m mk acc (nI k) := rfl
    rw [L8, L9]
    unfold fX8_entriesMarked_b4_s fX9_marked_b4_s
    rw [if_neg (show ¬ (96 : Int32) ≤ nI k from nI_ge (b := 96) hk (by decide)), if_neg (show ¬ (96 : Int32) ≤ nI k from nI_ge (b := 96) hk (by decide))]
    simp (disch := omega) only [eq_self, l21, l12, l20, na0, Nat.reduceAdd, wk_eq, lk_eq, lkN_eq, bd_eq, bw_eq, gd_nI, nI_clamp, na1, na2, na3, na4, na5, na6, na7, na8, na9, i192, i234, i276, i326, i332, i338, i96, i0, i8, ge6F, ge6T, ge4F, ge4T, ltz, lez, Nat.one_mul, if_true, if_false, one_ne, one_eq0, zero_eq0, wr0_1, glit320, glit321, glit322, glit323, glit324, glit325, glit344, cl320, cl321, cl322, cl323, cl324, cl325, cl344, (h k hk).2.1]
    rw [Int32.add_zero]
    by_cases e : m 1 (96 + k) &&& mk = 0
    · rw [if_pos e, if_pos e]
      exact ih _
    · rw [if_neg e, if_neg e]
      exact ih _
theorem going_both {c m : Mm} (h : RW c m) : ∃ r, fX8_walkersGoing c = some r ∧ fX9_count_b189 2000 m 0 0 = some (m, r) := by
  have key := down (P := fun f k => ∀ acc, ∃ r, fX8_walkersGoing_b4 f c acc (nI k) = some r ∧ fX9_count_b189 f m acc (nI k) = some (m, r)) 4 ?_ ?_ 4 0 2000 rfl (by decide) 0
  · exact key
  · intro f acc
    exact ⟨acc, rfl, rfl⟩
  · intro f k hk ih acc
    have L8 : fX8_walkersGoing_b4 (f + 1) c acc (nI k) = fX8_walkersGoing_b4_s (fX8_walkersGoing_b4 f) c acc (nI k) := rfl
    have L9 : fX9_count_b189 (f + 1) m acc (nI k) = fX9_count_b189_s (fX9_count_b189 f) m acc (nI k) := rfl
    rw [L8, L9]
    unfold fX8_walkersGoing_b4_s fX9_count_b189_s fX9_isGoing
    simp (disch := omega) only [eq_self, l21, l12, l20, na0, Nat.reduceAdd, wk_eq, lk_eq, lkN_eq, bd_eq, bw_eq, gd_nI, nI_clamp, na1, na2, na3, na4, na5, na6, na7, na8, na9, i192, i234, i276, i326, i332, i338, i96, i0, i8, ge6F, ge6T, ge4F, ge4T, ltz, lez, Nat.one_mul, if_true, if_false, one_ne, one_eq0, zero_eq0, wr0_1, glit320, glit321, glit322, glit323, glit324, glit325, glit344, cl320, cl321, cl322, cl323, cl324, cl325, cl344, (h k hk).1]
    by_cases e : m 1 (276 + 11 * k) = 1
    · rw [if_pos e, if_pos e]
      exact ih _
    · rw [if_neg e, if_neg e]
      rw [bd_eq, if_pos rfl, Int32.add_zero]
      exact ih _
theorem st_count : St_count Rel := by
  intro n cap cm mm a1 hn hr
  have h0 : Rel n cap cm (wr mm 0 0 0) := hr.scr Sc.rf (Sm.wr0 (m := mm) 0 0 (by decide))
  unfold fX8_count fX9_count
  rw [wk_eq]
  generalize wr mm 0 0 0 = m0 at h0
  have hN := h0.mono
  obtain ⟨q1, q2, q3, q4, q5, q6, q7, q8, q9, q10, q11⟩ := id h0
  by_cases k0 : a1 = 0
  · subst k0
    exact ⟨_, _, _, rfl, by rw [if_pos rfl, q2.2.1]; rfl, hN⟩
  rw [if_neg k0, if_neg k0]
  by_cases k0 : a1 = 1
  · obtain ⟨r, u1, u2⟩ := held_both (q := 7) q4 (by decide)
    rw [if_pos k0, if_pos k0, u1, show fX9_manyIn m0 192 0 = some (m0, r) from u2]
    exact ⟨_, _, _, rfl, rfl, hN⟩
  rw [if_neg k0, if_neg k0]
  by_cases k0 : a1 = 2
  · obtain ⟨r, u1, u2⟩ := held_both (q := 15) q5 (by decide)
    rw [if_pos k0, if_pos k0, u1, show fX9_manyIn m0 234 0 = some (m0, r) from u2]
    exact ⟨_, _, _, rfl, rfl, hN⟩
  rw [if_neg k0, if_neg k0]
  by_cases k0 : a1 = 3
  · obtain ⟨c', m', r, u1, u2, u3, u4⟩ := stp_both h0
    rw [if_pos k0, if_pos k0, u1, u2]
    exact ⟨_, _, _, rfl, rfl, h0.next u3 u4⟩
  rw [if_neg k0, if_neg k0]
  by_cases k0 : a1 = 4
  · obtain ⟨c', m', r, u1, u2, u3, u4⟩ := stu_both h0
    rw [if_pos k0, if_pos k0, u1, u2]
    exact ⟨_, _, _, rfl, rfl, h0.next u3 u4⟩
  rw [if_neg k0, if_neg k0]
  by_cases k0 : a1 = 5
  · rw [if_pos k0, if_pos k0, q8.1]
    exact ⟨_, _, _, rfl, rfl, hN⟩
  rw [if_neg k0, if_neg k0]
  by_cases k0 : a1 = 6
  · rw [if_pos k0, if_pos k0, q8.2.1]
    exact ⟨_, _, _, rfl, rfl, hN⟩
  rw [if_neg k0, if_neg k0]
  by_cases k0 : a1 = 7
  · rw [if_pos k0, if_pos k0, q8.2.2.1]
    exact ⟨_, _, _, rfl, rfl, hN⟩
  rw [if_neg k0, if_neg k0]
  by_cases k0 : a1 = 8
  · rw [if_pos k0, if_pos k0, q8.2.2.2.1]
    exact ⟨_, _, _, rfl, rfl, hN⟩
  rw [if_neg k0, if_neg k0]
  by_cases k0 : a1 = 9
  · rw [if_pos k0, if_pos k0, q8.2.2.2.2]
    exact ⟨_, _, _, rfl, rfl, hN⟩
  rw [if_neg k0, if_neg k0]
  by_cases k0 : a1 = 10
  · obtain ⟨t, t1, t2, t3, t4, -⟩ := q9
    have e : (if (40 : Int32) < cm 37 2 then (40 : Int32) else cm 37 2) = m0 0 6 := by
      rw [t2, t4]
      by_cases h : 40 < t
      · rw [if_pos (show (40 : Int32) < nI t from nI_lt (a := 40) h (by omega)), show min t 40 = 40 by omega]; rfl
      · rw [if_neg (show ¬ (40 : Int32) < nI t from nI_nlt (a := 40) (by omega) (by decide)), show min t 40 = t by omega]
    rw [if_pos k0, if_pos k0]
    unfold fX0_remembered
    rw [e]
    exact ⟨_, _, _, rfl, rfl, hN⟩
  rw [if_neg k0, if_neg k0]
  by_cases k0 : a1 = 11
  · obtain ⟨r, u1, u2⟩ := mark_both q1 1
    rw [if_pos k0, if_pos k0, u1, u2]
    exact ⟨_, _, _, rfl, rfl, hN⟩
  rw [if_neg k0, if_neg k0]
  by_cases k0 : a1 = 12
  · obtain ⟨r, u1, u2⟩ := mark_both q1 2
    rw [if_pos k0, if_pos k0, u1, u2]
    exact ⟨_, _, _, rfl, rfl, hN⟩
  rw [if_neg k0, if_neg k0]
  by_cases k0 : a1 = 13
  · obtain ⟨r, u1, u2⟩ := going_both q7
    rw [if_pos k0, if_pos k0, u1, u2]
    exact ⟨_, _, _, rfl, rfl, hN⟩
  rw [if_neg k0, if_neg k0]
  exact ⟨_, _, _, rfl, rfl, hN⟩
