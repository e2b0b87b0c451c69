/-! PURE: reverse, through -/
theorem RT.sc {c m c' m' : Mm} (h : RT c m) (hc : Sc c c') (hm : Sm m m') : RT c' m' := h.cg (hc 1 rfl) (hc 2 rfl) (Ea.of _ _ hm.1)
theorem RS.sc {c m c' m' : Mm} (h : RS c m) (hc : Sc c c') (hm : Sm m m') : RS c' m' := h.cg (by rw [hc 3 rfl]) (hc 4 rfl) (hc 5 rfl) (Ea.of _ _ hm.1) (by rw [hm.1])
theorem rev_loop {s : Nat} (hs : s < 6) (x2 x3 : Int32) : ∀ d k f, k + d = 512 → d < f → ∀ (c m : Mm) (x4 : Int32), RT c m → RS c m → ∃ c' m' r, fX8_reverse_b20 f c (nI s) x2 x3 x4 (nI k) = some (c', r) ∧ fX9_reverse_b25 f m (nI s) x2 x3 x4 (nI k) = some (m', r) ∧ Sc c c' ∧ Sm m m' := by
  refine down (P := fun f k => ∀ (c m : Mm) (x4 : Int32), RT c m → RS c m → ∃ c' m' r, fX8_reverse_b20 f c (nI s) x2 x3 x4 (nI k) = some (c', r) ∧ fX9_reverse_b25 f m (nI s) x2 x3 x4 (nI k) = some (m', r) ∧ Sc c c' ∧ Sm m m') 512 ?_ ?_
  · intro f c m x4 _ _
    refine ⟨c, m, if x3 = -1 then x4 else -1, ?_, ?_, Sc.rf, Sm.rf⟩
    · show fX8_reverse_b20_s (fX8_reverse_b20 f) c (nI s) x2 x3 x4 (nI 512) = _
      unfold fX8_reverse_b20_s
      rw [if_pos (by decide)]
      split <;> rfl
    · show fX9_reverse_b25_s (fX9_reverse_b25 f) m (nI s) x2 x3 x4 (nI 512) = _
      unfold fX9_reverse_b25_s
      rw [if_pos (by decide)]
      split <;> rfl
  · intro f k hk ih c m x4 hT hS
    obtain ⟨c1, m1, v, t1, t2, t3, t4, t5⟩ := fr_whole hT hS hs hk
    have hT1 := hT.sc t3 t4
    have hS1 := hS.sc t3 t4
    have nx : ∀ x4, ∃ c' m' r, fX8_reverse_b20 f c1 (nI s) x2 x3 x4 (nI (k + 1)) = some (c', r) ∧ fX9_reverse_b25 f m1 (nI s) x2 x3 x4 (nI (k + 1)) = some (m', r) ∧ Sc c c' ∧ Sm m m' := fun x4 => by
      obtain ⟨c', m', r, j1, j2, j3, j4⟩ := ih c1 m1 x4 hT1 hS1
      exact ⟨c', m', r, j1, j2, t3.tr j3, t4.tr j4⟩
    have L8 : fX8_reverse_b20 (f + 1) c (nI s) x2 x3 x4 (nI k) = fX8_reverse_b20_s (fX8_reverse_b20 f) c (nI s) x2 x3 x4 (nI k) := rfl
    have L9 : fX9_reverse_b25 (f + 1) m (nI s) x2 x3 x4 (nI k) = fX9_reverse_b25_s (fX9_reverse_b25 f) m (nI s) x2 x3 x4 (nI k) := rfl
    rw [L8, L9]
    unfold fX8_reverse_b20_s fX9_reverse_b25_s
    rw [if_neg (show ¬ (512 : Int32) ≤ nI k from nI_ge (b := 512) hk (by decide)), if_neg (show ¬ (512 : Int32) ≤ nI k from nI_ge (b := 512) hk (by decide)), t1, t2, bw_eq, bw_eq, na1]
    rcases t5 with ⟨k0, k1, k2, -⟩ | ⟨k0, k1, -⟩
    · rw [if_pos k0, if_neg k1, k2, bd_eq]
      by_cases e : v = x2
      · rw [if_pos e, if_pos e]
        by_cases e2 : x4 = x3
        · rw [if_pos e2, if_pos e2]
          exact ⟨c1, m1, _, rfl, rfl, t3, t4⟩
        · rw [if_neg e2, if_neg e2]
          exact nx _
      · rw [if_neg e, if_neg e]
        exact nx _
    · rw [if_neg k0, if_pos k1]
      exact nx _
theorem st_reverse : St_reverse Rel := by
  intro n cap cm mm a1 a2 a3 hn hr
  have h0 : Rel n cap cm (wr mm 0 0 0) := hr.scr Sc.rf (Sm.wr0 (m := mm) 0 0 (by decide))
  unfold fX8_reverse fX9_reverse
  rw [wk_eq]
  generalize wr mm 0 0 0 = m0 at h0
  have hN := h0.mono
  rcases rng a1 6 (by decide) with h | ⟨s, hs, rfl⟩
  · obtain ⟨e1, e2⟩ := sp_out h
    simp only [e1, e2, eq_self, if_true]
    exact ⟨_, _, -1, rfl, rfl, hN⟩
  · obtain ⟨e1, e2⟩ := sp_in hs
    rw [e1, e2, if_neg one_ne, if_neg one_ne]
    by_cases h3 : (-1 : Int32) ≤ a3
    · rw [if_pos h3, if_pos h3]
      obtain ⟨c', m', r, j1, j2, j3, j4⟩ := rev_loop hs a2 a3 512 0 2000 rfl (by decide) cm m0 0 h0.1 h0.2.1
      exact ⟨c', m', r, j1, j2, h0.next j3 j4⟩
    · rw [if_neg h3, if_neg h3]
      exact ⟨_, _, -1, rfl, rfl, hN⟩
theorem comes_by {c : Mm} {y : Int32} : ∃ r, fX7_comesBy c y = some r ∧ ((r = 1 ∧ ∃ j, j < 3 ∧ c 35 j = y) ∨ (r = 0 ∧ ∀ j, j < 3 → ¬ c 35 j = y)) := by
  have u : fX7_comesBy c y = if c 35 2 = y then some 1 else if c 35 1 = y then some 1 else if c 35 0 = y then some 1 else some 0 := rfl
  rw [u]
  by_cases h2 : c 35 2 = y
  · exact ⟨1, by rw [if_pos h2], Or.inl ⟨rfl, 2, by decide, h2⟩⟩
  · by_cases h1 : c 35 1 = y
    · exact ⟨1, by rw [if_neg h2, if_pos h1], Or.inl ⟨rfl, 1, by decide, h1⟩⟩
    · by_cases h0 : c 35 0 = y
      · exact ⟨1, by rw [if_neg h2, if_neg h1, if_pos h0], Or.inl ⟨rfl, 0, by decide, h0⟩⟩
      · refine ⟨0, by rw [if_neg h2, if_neg h1, if_neg h0], Or.inr ⟨rfl, fun j hj => ?_⟩⟩
        rcases (show j = 0 ∨ j = 1 ∨ j = 2 by omega) with rfl | rfl | rfl
        · exact h0
        · exact h1
        · exact h2
theorem thr_loop {s t i : Nat} (hs : s < 6) (ht : t < 12) (hi : i < 8) : ∀ d k f, k + d = 512 → d < f → ∀ (c m : Mm) (x4 : Int32), RT c m → RS c m → ∃ c' r, fX8_through_b30 f c (nI s) (nI (t * 8 + i)) x4 (nI k) = some (c', r) ∧ fX9_through_b28 f m (nI s) (nI t) (nI i) x4 (nI k) = some (m, r) ∧ Sc c c' := by
  refine down (P := fun f k => ∀ (c m : Mm) (x4 : Int32), RT c m → RS c m → ∃ c' r, fX8_through_b30 f c (nI s) (nI (t * 8 + i)) x4 (nI k) = some (c', r) ∧ fX9_through_b28 f m (nI s) (nI t) (nI i) x4 (nI k) = some (m, r) ∧ Sc c c') 512 ?_ ?_
  · intro f c m x4 _ _
    exact ⟨c, x4, rfl, rfl, Sc.rf⟩
  · intro f k hk ih c m x4 hT hS
    obtain ⟨c1, t1, t2, -, -, -, t3⟩ := tr_whole hT hS hs hk
    obtain ⟨r, p1, p2⟩ := t3 (t * 8 + i) (by omega)
    obtain ⟨r', p3, p4⟩ := comes_by (c := c1) (y := nI (t * 8 + i))
    have hrr : r' = r := by
      rcases p2 with ⟨a1, j, hj, a2⟩ | ⟨a1, a2⟩
      · rcases p4 with ⟨b1, -⟩ | ⟨b1, b2⟩
        · rw [a1, b1]
        · exact absurd a2 (b2 j hj)
      · rcases p4 with ⟨b1, j, hj, b2⟩ | ⟨b1, -⟩
        · exact absurd b2 (a2 j hj)
        · rw [a1, b1]
    subst hrr
    have hT1 := hT.sc t2 (Sm.rf (m := m))
    have hS1 := hS.sc t2 (Sm.rf (m := m))
    have nx : ∀ x4, ∃ c' r, fX8_through_b30 f c1 (nI s) (nI (t * 8 + i)) x4 (nI (k + 1)) = some (c', r) ∧ fX9_through_b28 f m (nI s) (nI t) (nI i) x4 (nI (k + 1)) = some (m, r) ∧ Sc c c' := fun x4 => by
      obtain ⟨c', r, j1, j2, j3⟩ := ih c1 m x4 hT1 hS1
      exact ⟨c', r, j1, j2, t2.tr j3⟩
    have L8 : fX8_through_b30 (f + 1) c (nI s) (nI (t * 8 + i)) x4 (nI k) = fX8_through_b30_s (fX8_through_b30 f) c (nI s) (nI (t * 8 + i)) x4 (nI k) := rfl
    have L9 : fX9_through_b28 (f + 1) m (nI s) (nI t) (nI i) x4 (nI k) = fX9_through_b28_s (fX9_through_b28 f) m (nI s) (nI t) (nI i) x4 (nI k) := rfl
    have ix : (8 : Int32) * nI t + nI i = nI (t * 8 + i) := by
      rw [i8, nI_add]; congr 1; omega
    rw [L8, L9]
    unfold fX8_through_b30_s fX9_through_b28_s
    rw [if_neg (show ¬ (512 : Int32) ≤ nI k from nI_ge (b := 512) hk (by decide)), if_neg (show ¬ (512 : Int32) ≤ nI k from nI_ge (b := 512) hk (by decide)), t1, bw_eq, ix, p1, p3, bd_eq, bd_eq, na1]
    by_cases e : r' = 0
    · rw [if_pos e, if_pos e, lk_eq, Int32.add_zero]
      exact nx _
    · rw [if_neg e, if_neg e, lk_eq]
      exact nx _
theorem st_through : St_through Rel := by
  intro n cap cm mm a1 a2 a3 hn hr
  have h0 : Rel n cap cm (wr mm 0 0 0) := hr.scr Sc.rf (Sm.wr0 (m := mm) 0 0 (by decide))
  unfold fX8_through fX9_through
  rw [wk_eq]
  generalize wr mm 0 0 0 = m0 at h0
  have hN := h0.mono
  rcases rng a1 6 (by decide) with h | ⟨s, hs, rfl⟩
  · obtain ⟨e1, e2⟩ := sp_out h
    simp only [e1, e2, eq_self, if_true]
    exact ⟨_, _, -1, rfl, rfl, hN⟩
  · obtain ⟨e1, e2⟩ := sp_in hs
    rcases cell_cases a2 a3 with ⟨f1, f2⟩ | ⟨t, i, ht, hi, rfl, rfl, f1, f2⟩
    · simp only [e1, e2, f1, f2, one_eq0, eq_self, if_true, if_false]
      exact ⟨_, _, -1, rfl, rfl, hN⟩
    · simp only [e1, e2, f1, f2, one_eq0, if_false, lk_eq, cell_eq]
      obtain ⟨c', r, j1, j2, j3⟩ := thr_loop hs ht hi 512 0 2000 rfl (by decide) cm m0 0 h0.1 h0.2.1
      exact ⟨c', m0, r, j1, j2, h0.next j3 Sm.rf⟩
