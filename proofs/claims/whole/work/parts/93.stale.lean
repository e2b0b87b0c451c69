/-! PURE: who holds a tag; what is stale; cached, upper, count -/
theorem hol_c {c : Mm} {v : Int32} {s : Nat} (hs : s < 6) (h1 : c 5 s = v) (h2 : ∀ j, j < s → ¬ c 5 j = v) : fX4_holderOf c v = some (nI s) := by
  have key := down (P := fun f k => k ≤ s → fX4_holderOf_b2 f c v (nI k) = some (nI s)) 6 ?_ ?_ 6 0 2000 rfl (by decide) (Nat.zero_le _)
  · exact key
  · intro f h; omega
  · intro f k hk ih hks
    show fX4_holderOf_b2_s (fX4_holderOf_b2 f) c v (nI k) = _
    unfold fX4_holderOf_b2_s
    simp (disch := omega) only [eq_self, l21, l12, l20, na0, Nat.reduceAdd, wk_eq, lk_eq, lkN_eq, bd_eq, bw_eq, gd_nI, nI_clamp, na1, na2, na3, na4, na5, na6, na7, na8, na9, i192, i234, i276, i326, i332, i338, i96, i0, i8, ge6F, ge6T, ge4F, ge4T, ltz, lez, Nat.one_mul, if_true, if_false, one_ne, one_eq0, zero_eq0, wr0_1, glit320, glit321, glit322, glit323, glit324, glit325, glit344, cl320, cl321, cl322, cl323, cl324, cl325, cl344]
    by_cases e : k = s
    · subst e
      rw [if_pos h1]
    · rw [if_neg (h2 k (by omega))]
      exact ih (by omega)
theorem hol_c0 {c : Mm} {v : Int32} (h2 : ∀ j, j < 6 → ¬ c 5 j = v) : fX4_holderOf c v = some (-1) := by
  have key := down (P := fun f k => fX4_holderOf_b2 f c v (nI k) = some (-1)) 6 ?_ ?_ 6 0 2000 rfl (by decide)
  · exact key
  · intro f; rfl
  · intro f k hk ih
    show fX4_holderOf_b2_s (fX4_holderOf_b2 f) c v (nI k) = _
    unfold fX4_holderOf_b2_s
    simp (disch := omega) only [eq_self, l21, l12, l20, na0, Nat.reduceAdd, wk_eq, lk_eq, lkN_eq, bd_eq, bw_eq, gd_nI, nI_clamp, na1, na2, na3, na4, na5, na6, na7, na8, na9, i192, i234, i276, i326, i332, i338, i96, i0, i8, ge6F, ge6T, ge4F, ge4T, ltz, lez, Nat.one_mul, if_true, if_false, one_ne, one_eq0, zero_eq0, wr0_1, glit320, glit321, glit322, glit323, glit324, glit325, glit344, cl320, cl321, cl322, cl323, cl324, cl325, cl344]
    rw [if_neg (h2 k hk)]
    exact ih
theorem hol_m {m : Mm} {v : Int32} {s : Nat} (hs : s < 6) (h1 : m 1 (332 + s) = v) (h2 : ∀ j, j < 6 → j ≠ s → ¬ m 1 (332 + j) = v) : fX9_holder m v = some (nI s) := by
  have key := down (P := fun f k => ∀ acc, fX9_holder_b4 f m v acc (nI k) = some (if k ≤ s then nI s else acc)) 6 ?_ ?_ 6 0 2000 rfl (by decide) (-1)
  · rw [if_pos (Nat.zero_le _)] at key; exact key
  · intro f acc
    rw [if_neg (by omega)]; rfl
  · intro f k hk ih acc
    show fX9_holder_b4_s (fX9_holder_b4 f) m v acc (nI k) = _
    unfold fX9_holder_b4_s
    simp (disch := omega) only [eq_self, l21, l12, l20, na0, Nat.reduceAdd, wk_eq, lk_eq, lkN_eq, bd_eq, bw_eq, gd_nI, nI_clamp, na1, na2, na3, na4, na5, na6, na7, na8, na9, i192, i234, i276, i326, i332, i338, i96, i0, i8, ge6F, ge6T, ge4F, ge4T, ltz, lez, Nat.one_mul, if_true, if_false, one_ne, one_eq0, zero_eq0, wr0_1, glit320, glit321, glit322, glit323, glit324, glit325, glit344, cl320, cl321, cl322, cl323, cl324, cl325, cl344]
    by_cases e : k = s
    · subst e
      rw [if_pos h1, ih, if_neg (by omega), if_pos (Nat.le_refl _)]
    · rw [if_neg (h2 k hk e), ih]
      by_cases h : k ≤ s
      · rw [if_pos h, if_pos (by omega)]
      · rw [if_neg h, if_neg (by omega)]
theorem hol_m0 {m : Mm} {v : Int32} (h2 : ∀ j, j < 6 → ¬ m 1 (332 + j) = v) : fX9_holder m v = some (-1) := by
  have key := down (P := fun f k => ∀ acc, fX9_holder_b4 f m v acc (nI k) = some acc) 6 ?_ ?_ 6 0 2000 rfl (by decide) (-1)
  · exact key
  · intro f acc; rfl
  · intro f k hk ih acc
    show fX9_holder_b4_s (fX9_holder_b4 f) m v acc (nI k) = _
    unfold fX9_holder_b4_s
    simp (disch := omega) only [eq_self, l21, l12, l20, na0, Nat.reduceAdd, wk_eq, lk_eq, lkN_eq, bd_eq, bw_eq, gd_nI, nI_clamp, na1, na2, na3, na4, na5, na6, na7, na8, na9, i192, i234, i276, i326, i332, i338, i96, i0, i8, ge6F, ge6T, ge4F, ge4T, ltz, lez, Nat.one_mul, if_true, if_false, one_ne, one_eq0, zero_eq0, wr0_1, glit320, glit321, glit322, glit323, glit324, glit325, glit344, cl320, cl321, cl322, cl323, cl324, cl325, cl344]
    rw [if_neg (h2 k hk)]
    exact ih acc
theorem hol_both {c m : Mm} (hS : RS c m) {v : Int32} (hv : ¬ v = -1) : (∃ s, s < 6 ∧ m 1 (332 + s) = v ∧ fX4_holderOf c v = some (nI s) ∧ fX9_holder m v = some (nI s)) ∨ ((∀ s, s < 6 → ¬ m 1 (332 + s) = v) ∧ fX4_holderOf c v = some (-1) ∧ fX9_holder m v = some (-1)) := by
  obtain ⟨r1, -, -, r4, -⟩ := hS
  by_cases h : ∃ s, s < 6 ∧ m 1 (332 + s) = v
  · obtain ⟨s, hs, e⟩ := h
    have un : ∀ j, j < 6 → j ≠ s → ¬ m 1 (332 + j) = v := fun j hj hjs e2 => hjs (r4 j s hj hs (e2.trans e.symm) (by rw [e2]; exact hv))
    exact Or.inl ⟨s, hs, e, hol_c hs (by rw [(r1 s hs).2.1]; exact e) (fun j hj => by rw [(r1 j (by omega)).2.1]; exact un j (by omega) (by omega)), hol_m hs e un⟩
  · have un : ∀ j, j < 6 → ¬ m 1 (332 + j) = v := fun j hj e => h ⟨j, hj, e⟩
    exact Or.inr ⟨un, hol_c0 (fun j hj => by rw [(r1 j hj).2.1]; exact un j hj), hol_m0 un⟩
theorem RP.full {n b q a : Nat} {c m : Mm} (h : RP n b q a c m) {k : Nat} (hk : k < 6) (hf : c (b + k) 0 = 1) : RPf (b + k) (a + 7 * k) c m := by
  obtain ⟨x, y, kc, km, r1, r2, r3, r4, r5, r6, r7⟩ := h
  rcases r5 k hk with ⟨e, -⟩ | ⟨e, -⟩
  · exact e
  · rw [e] at hf; exact absurd hf (by decide)
theorem RP.dich {n b q a : Nat} {c m : Mm} (h : RP n b q a c m) {k : Nat} (hk : k < 6) : (c (b + k) 0 = 1 ∧ RPf (b + k) (a + 7 * k) c m ∧ ∃ g, g < 3 ∧ m 1 (a + 7 * k) = nI g) ∨ (c (b + k) 0 = 0 ∧ m 1 (a + 7 * k) = -1) := by
  obtain ⟨x, y, kc, km, r1, r2, r3, r4, r5, r6, r7⟩ := h
  rcases r5 k hk with ⟨e, -⟩ | ⟨e, e2⟩
  · exact Or.inl ⟨e.1, e, e.2.1⟩
  · exact Or.inr ⟨e, e2⟩
theorem emp_f {m : Mm} {A g : Nat} (hA : A < 345) (hg : g < 3) (h : m 1 A = nI g) : fX9_isEmpty m (nI A) = some 0 := by
  unfold fX9_isEmpty
  simp (disch := omega) only [eq_self, l21, l12, l20, na0, Nat.reduceAdd, wk_eq, lk_eq, lkN_eq, bd_eq, bw_eq, gd_nI, nI_clamp, na1, na2, na3, na4, na5, na6, na7, na8, na9, i192, i234, i276, i326, i332, i338, i96, i0, i8, ge6F, ge6T, ge4F, ge4T, ltz, lez, Nat.one_mul, if_true, if_false, one_ne, one_eq0, zero_eq0, wr0_1, glit320, glit321, glit322, glit323, glit324, glit325, glit344, cl320, cl321, cl322, cl323, cl324, cl325, cl344, h]
theorem emp_t {m : Mm} {A : Nat} (hA : A < 345) (h : m 1 A = -1) : fX9_isEmpty m (nI A) = some 1 := by
  unfold fX9_isEmpty
  simp (disch := omega) only [eq_self, l21, l12, l20, na0, Nat.reduceAdd, wk_eq, lk_eq, lkN_eq, bd_eq, bw_eq, gd_nI, nI_clamp, na1, na2, na3, na4, na5, na6, na7, na8, na9, i192, i234, i276, i326, i332, i338, i96, i0, i8, ge6F, ge6T, ge4F, ge4T, ltz, lez, Nat.one_mul, if_true, if_false, one_ne, one_eq0, zero_eq0, wr0_1, glit320, glit321, glit322, glit323, glit324, glit325, glit344, cl320, cl321, cl322, cl323, cl324, cl325, cl344, h, m1le]
theorem stale_pg {n cap : Nat} {c m : Mm} (hr : Rel n cap c m) {k : Nat} (hk : k < 6) (hf : c (9 + k) 0 = 1) : ∃ c' m' r, fX8_isStalePage c (9 + k) = some (c', r) ∧ fX9_isStale m (nI (192 + 7 * k)) = some (m', r) ∧ Sc c c' ∧ Sm m m' ∧ m' 0 0 = m 0 0 ∧ (r = 0 ∨ r = 1) := by
  obtain ⟨q1, q2, q3, q4, q5, q6, q7, q8, q9, q10, q11⟩ := hr
  obtain ⟨-, ⟨g, hg, e0⟩, e1, e2, e3, e4, e5, e6, ⟨l, fi, hl, hfi, l1, l2, -⟩, -⟩ := q4.full hk hf
  obtain ⟨s, hs, es⟩ := q11.1 k hk (by rw [e0]; intro h; rw [m1ne (by omega)] at h; exact h)
  have hv : ¬ m 1 (192 + 7 * k) = -1 := by rw [e0]; intro h; rw [m1ne (by omega)] at h; exact h
  rcases hol_both q2 hv with ⟨s', hs', -, o1, o2⟩ | ⟨no, -⟩
  · obtain ⟨c', t1, t2, -, ⟨m', r, w1, w2, w0, w3⟩, -, -⟩ := tr_whole q1 q2 hs' hfi
    have hb : c' (9 + k) = c (9 + k) := t2 _ (by rcases (show k = 0 ∨ k = 1 ∨ k = 2 ∨ k = 3 ∨ k = 4 ∨ k = 5 by omega) with rfl | rfl | rfl | rfl | rfl | rfl <;> rfl)
    unfold fX8_isStalePage fX9_isStale
    rw [e1, e3, l2, o1]
    simp (disch := omega) only [eq_self, l21, l12, l20, na0, Nat.reduceAdd, wk_eq, lk_eq, lkN_eq, bd_eq, bw_eq, gd_nI, nI_clamp, na1, na2, na3, na4, na5, na6, na7, na8, na9, i192, i234, i276, i326, i332, i338, i96, i0, i8, ge6F, ge6T, ge4F, ge4T, ltz, lez, Nat.one_mul, if_true, if_false, one_ne, one_eq0, zero_eq0, wr0_1, glit320, glit321, glit322, glit323, glit324, glit325, glit344, cl320, cl321, cl322, cl323, cl324, cl325, cl344, o2, l2, m1ne]
    rw [t1, w1, bw_eq, bw_eq, hb, e2, e4, e5, w2.1]
    rcases w3 with ⟨z1, z2, le, x, z3, z4, z5, z6, z7, z8, z9, z10, -⟩ | ⟨z1, z2⟩
    · have i17 : (0 : Int32) + m' 0 17 = nI x := by rw [z7, i0]
      have rn : fX9_rightsNow m' = some (c' 34 5) := by
        unfold fX9_rightsNow
        rw [i17, gd_nI (by omega) (by decide), nI_clamp (by omega), w2.1, z10]
      rw [if_pos z2, z1, if_neg (show ¬ (0 : Int32) < 0 by decide), z6, z5, z9, i17, rn, gd_nI (by omega) (by decide), nI_clamp (by omega), bd_eq]
      by_cases y1 : nI le = m 1 (192 + 7 * k + 1)
      · rw [if_pos y1, if_pos y1]
        by_cases y2 : fX9_targetOf (m 1 x) = m 1 (192 + 7 * k + 3)
        · rw [if_pos y2, if_pos y2]
          by_cases y3 : c' 34 5 = m 1 (192 + 7 * k + 4)
          · rw [if_pos y3, if_pos y3]
            exact ⟨_, _, 0, rfl, rfl, t2, w2, w0, Or.inl rfl⟩
          · rw [if_neg y3, if_neg y3]
            exact ⟨_, _, 1, rfl, rfl, t2, w2, w0, Or.inr rfl⟩
        · rw [if_neg y2, if_neg y2]
          exact ⟨_, _, 1, rfl, rfl, t2, w2, w0, Or.inr rfl⟩
      · rw [if_neg y1, if_neg y1]
        exact ⟨_, _, 1, rfl, rfl, t2, w2, w0, Or.inr rfl⟩
    · rw [if_neg (by rw [z2]; rcases z1 with rfl | rfl | rfl <;> decide), if_pos (by rcases z1 with rfl | rfl | rfl <;> decide)]
      exact ⟨_, _, 1, rfl, rfl, t2, w2, w0, Or.inr rfl⟩
  · exact absurd es (no s hs)
theorem stale_up {n cap : Nat} {c m : Mm} (hr : Rel n cap c m) {k : Nat} (hk : k < 6) (hf : c (17 + k) 0 = 1) : ∃ c' m' r, fX8_isStaleUpper c (17 + k) = some (c', r) ∧ fX9_isStaleAbove m (nI (234 + 7 * k)) = some (m', r) ∧ Sc c c' ∧ Sm m m' ∧ m' 0 0 = m 0 0 ∧ (r = 0 ∨ r = 1) := by
  obtain ⟨q1, q2, q3, q4, q5, q6, q7, q8, q9, q10, q11⟩ := hr
  obtain ⟨-, ⟨g, hg, e0⟩, e1, e2, e3, e4, e5, e6, ⟨l, fi, hl, hfi, l1, l2, -⟩, -⟩ := q5.full hk hf
  obtain ⟨s, hs, es⟩ := q11.2.1 k hk (by rw [e0]; intro h; rw [m1ne (by omega)] at h; exact h)
  have hl0 : 0 < l := by
    rcases Nat.eq_zero_or_pos l with h | h
    · subst h
      exact absurd l1 (q6.2 k hk hf).2.2
    · exact h
  have hv : ¬ m 1 (234 + 7 * k) = -1 := by rw [e0]; intro h; rw [m1ne (by omega)] at h; exact h
  rcases hol_both q2 hv with ⟨s', hs', -, o1, o2⟩ | ⟨no, -⟩
  · obtain ⟨c', t1, t2, -, -, w, -⟩ := tr_whole q1 q2 hs' hfi
    obtain ⟨m', r, w1, w2, w0, w3⟩ := w l (by omega) hl0
    have hb : c' (17 + k) = c (17 + k) := t2 _ (by rcases (show k = 0 ∨ k = 1 ∨ k = 2 ∨ k = 3 ∨ k = 4 ∨ k = 5 by omega) with rfl | rfl | rfl | rfl | rfl | rfl <;> rfl)
    have hc1 : c' 1 = c 1 := t2 1 rfl
    unfold fX8_isStaleUpper fX9_isStaleAbove
    rw [e1, e3, l2, o1]
    simp (disch := omega) only [eq_self, l21, l12, l20, na0, Nat.reduceAdd, wk_eq, lk_eq, lkN_eq, bd_eq, bw_eq, gd_nI, nI_clamp, na1, na2, na3, na4, na5, na6, na7, na8, na9, i192, i234, i276, i326, i332, i338, i96, i0, i8, ge6F, ge6T, ge4F, ge4T, ltz, lez, Nat.one_mul, if_true, if_false, one_ne, one_eq0, zero_eq0, wr0_1, glit320, glit321, glit322, glit323, glit324, glit325, glit344, cl320, cl321, cl322, cl323, cl324, cl325, cl344, o2, l2, l1, m1ne]
    rw [t1, w1, bw_eq, bw_eq, hb, e2, e4, e5, w2.1, l1, gd_nI hl (by decide), nI_clamp (by omega), gd_nI hl (by decide)]
    rcases w3 with ⟨z1, x, z2, z3, z4, z5, z6⟩ | ⟨z1, z2⟩
    · have i17 : (0 : Int32) + m' 0 17 = nI x := by rw [z4, i0]
      rw [z1, if_pos rfl, i17, gd_nI (by omega) (by decide), nI_clamp (by omega), z3, z5, if_neg (by rw [m1ne (by omega)]; exact id), gd_nI z2 (by decide), gd_nI z2 (by decide), nI_clamp (by omega), hc1, (q1 x z2).1, show fX8_kindOf (m 1 x) = 1 from z6, if_pos rfl, targ_eq]
      by_cases y2 : fX9_targetOf (m 1 x) = m 1 (234 + 7 * k + 3)
      · rw [if_pos y2, if_pos y2]
        by_cases y3 : m' 0 19 = m 1 (234 + 7 * k + 4)
        · rw [if_pos y3, if_pos y3]
          exact ⟨_, _, 0, rfl, rfl, t2, w2, w0, Or.inl rfl⟩
        · rw [if_neg y3, if_neg y3]
          exact ⟨_, _, 1, rfl, rfl, t2, w2, w0, Or.inr rfl⟩
      · rw [if_neg y2, if_neg y2]
        refine ⟨_, _, 1, ?_, rfl, t2, w2, w0, Or.inr rfl⟩
        split <;> rfl
    · rw [if_neg z1]
      refine ⟨c', m', 1, ?_, rfl, t2, w2, w0, Or.inr rfl⟩
      rcases z2 with z2 | ⟨x, z2, z3, z4⟩
      · rw [z2, if_pos rfl]
      · rw [z3, if_neg (by rw [m1ne (by omega)]; exact id), gd_nI z2 (by decide), gd_nI z2 (by decide), nI_clamp (by omega), hc1, (q1 x z2).1, if_neg (show ¬ fX8_kindOf (m 1 x) = 1 from z4)]
        split <;> rfl
  · exact absurd es (no s hs)
