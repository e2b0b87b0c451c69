/-! PURE: current -/
theorem hol_b2 {c m : Mm} (r1 : ∀ s, s < 6 → c 5 s = m 1 (332 + s)) (r4 : ∀ s t, s < 6 → t < 6 → m 1 (332 + s) = m 1 (332 + t) → m 1 (332 + s) ≠ -1 → s = t) {v : Int32} (hv : ¬ v = -1) : (∃ s, s < 6 ∧ m 1 (332 + s) = v ∧ fX4_holderOf c v = some (nI s) ∧ fX9_holder m v = some (nI s)) ∨ ((∀ s, s < 6 → ¬ m 1 (332 + s) = v) ∧ fX4_holderOf c v = some (-1) ∧ fX9_holder m v = some (-1)) := by
  by_cases h : ∃ s, s < 6 ∧ m 1 (332 + s) = v
  · obtain ⟨s, hs, e⟩ := h
    have un : ∀ j, j < 6 → j ≠ s → ¬ m 1 (332 + j) = v := fun j hj hjs e2 => hjs (r4 j s hj hs (e2.trans e.symm) (by rw [e2]; exact hv))
    exact Or.inl ⟨s, hs, e, hol_c hs (by rw [r1 s hs]; exact e) (fun j hj => by rw [r1 j (by omega)]; exact un j (by omega) (by omega)), hol_m hs e un⟩
  · have un : ∀ j, j < 6 → ¬ m 1 (332 + j) = v := fun j hj e => h ⟨j, hj, e⟩
    exact Or.inr ⟨un, hol_c0 (fun j hj => by rw [r1 j hj]; exact un j hj), hol_m0 un⟩
theorem free_tag {c m : Mm} (r1 : ∀ s, s < 6 → c 5 s = m 1 (332 + s)) (r4 : ∀ s t, s < 6 → t < 6 → m 1 (332 + s) = m 1 (332 + t) → m 1 (332 + s) ≠ -1 → s = t) : (∃ g, g < 3 ∧ (∀ u, u < 6 → ¬ m 1 (332 + u) = nI g) ∧ fX4_leastFreeTag c = some (nI g) ∧ fX9_freeTag m = some (m, nI g)) ∨ ((∀ g, g < 3 → ∃ u, u < 6 ∧ m 1 (332 + u) = nI g) ∧ fX4_leastFreeTag c = some (-1) ∧ fX9_freeTag m = fX9_freeTag_b32 2000 m (-1) 0) := by
  have key := down (P := fun f g => (∀ h, h < g → ∃ u, u < 6 ∧ m 1 (332 + u) = nI h) → ((∃ g, g < 3 ∧ (∀ u, u < 6 → ¬ m 1 (332 + u) = nI g) ∧ fX4_leastFreeTag_b2 f c (nI g) = fX4_leastFreeTag_b2 f c (nI g)) ∨ True) ∧ ((∃ g', g' < 3 ∧ (∀ u, u < 6 → ¬ m 1 (332 + u) = nI g') ∧ fX4_leastFreeTag_b2 f c (nI g) = some (nI g') ∧ fX9_freeTag_b2 f m (nI g) = some (m, nI g')) ∨ ((∀ g, g < 3 → ∃ u, u < 6 ∧ m 1 (332 + u) = nI g) ∧ fX4_leastFreeTag_b2 f c (nI g) = some (-1) ∧ fX9_freeTag_b2 f m (nI g) = fX9_freeTag_b32 2000 m (-1) 0))) 3 ?_ ?_ 3 0 2000 rfl (by decide) (fun h hh => by omega)
  · exact key.2
  · intro f hh
    refine ⟨Or.inr trivial, Or.inr ⟨hh, rfl, ?_⟩⟩
    have L9 : fX9_freeTag_b2 (f + 1) m (nI 3) = fX9_freeTag_b2_s (fX9_freeTag_b2 f) m (nI 3) := rfl
    rw [L9]
    unfold fX9_freeTag_b2_s fX9_freeTag_b21
    rw [if_pos (by decide), if_pos (by decide)]
  · intro f g hg ih hh
    refine ⟨Or.inr trivial, ?_⟩
    have L8 : fX4_leastFreeTag_b2 (f + 1) c (nI g) = fX4_leastFreeTag_b2_s (fX4_leastFreeTag_b2 f) c (nI g) := rfl
    have L9 : fX9_freeTag_b2 (f + 1) m (nI g) = fX9_freeTag_b2_s (fX9_freeTag_b2 f) m (nI g) := rfl
    rw [L8, L9]
    unfold fX4_leastFreeTag_b2_s fX9_freeTag_b2_s fX9_freeTag_b21
    have n3 : ¬ (3 : Int32) ≤ nI g := nI_ge (b := 3) hg (by decide)
    rw [if_neg n3, if_neg n3]
    rcases hol_b2 r1 r4 (v := nI g) (by rw [m1ne (by omega)]; exact id) with ⟨u, hu, e, o1, o2⟩ | ⟨no, o1, o2⟩
    · rw [o1, o2, bd_eq, bd_eq, if_neg (by rw [m1ne (by omega)]; exact id), if_neg (nI_pos (by omega)), na1]
      refine (ih (fun h hh2 => ?_)).2
      by_cases e2 : h = g
      · subst e2
        exact ⟨u, hu, e⟩
      · exact hh h (by omega)
    · rw [o1, o2, bd_eq, bd_eq, if_pos rfl, if_pos (by decide), if_neg n3]
      exact Or.inl ⟨g, hg, no, rfl, rfl⟩
/-- the eldest holder: the same on both sides -/
theorem eldest {c m : Mm} {x y : Nat → Nat} {s : Nat} (r1 : ∀ s, s < 6 → c 5 s = m 1 (332 + s)) (rv : ∀ s, s < 6 → Vn 3 (m 1 (332 + s))) (hnow : c 3 4 = nI s) (hs : s < 6) (hTs : m 1 (332 + s) = -1) (hx : ∀ u, u < 6 → c 6 u = nI (x u) ∧ m 1 (338 + u) = nI (y u) ∧ x u < 2 ^ 31 ∧ y u < 2 ^ 31) (hO : ∀ u v, u < 6 → v < 6 → m 1 (332 + u) ≠ -1 → m 1 (332 + v) ≠ -1 → (x u < x v ↔ y u < y v)) (hex : ∃ u, u < 6 ∧ m 1 (332 + u) ≠ -1) : ∃ e, e < 6 ∧ m 1 (332 + e) ≠ -1 ∧ fX4_takeOldestTag c = some (wr c 5 e (-1), m 1 (332 + e)) ∧ fX9_freeTag_b32 2000 m (-1) 0 = bw (fX9_clearsTag (wr m 1 (332 + e) (-1)) (m 1 (332 + e))) (fun m7 _ => some (m7, m 1 (332 + e))) := by
  have key := down (P := fun f k => ∀ acc : Int32, (acc = -1 ∧ ∃ u, k ≤ u ∧ u < 6 ∧ m 1 (332 + u) ≠ -1) ∨ (∃ e, e < 6 ∧ acc = nI e ∧ m 1 (332 + e) ≠ -1) → ∃ e, e < 6 ∧ m 1 (332 + e) ≠ -1 ∧ fX4_takeOldestTag_b4 f c acc (nI k) = some (wr c 5 e (-1), m 1 (332 + e)) ∧ fX9_freeTag_b32 f m acc (nI k) = bw (fX9_clearsTag (wr m 1 (332 + e) (-1)) (m 1 (332 + e))) (fun m7 _ => some (m7, m 1 (332 + e)))) 6 ?_ ?_ 6 0 2000 rfl (by decide) (-1) (Or.inl ⟨rfl, by obtain ⟨u, h1, h2⟩ := hex; exact ⟨u, by omega, h1, h2⟩⟩)
  · exact key
  · intro f acc hacc
    rcases hacc with ⟨-, u, h1, h2, -⟩ | ⟨e, he, rfl, hT⟩
    · omega
    · refine ⟨e, he, hT, ?_, ?_⟩
      · have L8 : fX4_takeOldestTag_b4 (f + 1) c (nI e) (nI 6) = fX4_takeOldestTag_b4_s (fX4_takeOldestTag_b4 f) c (nI e) (nI 6) := rfl
        rw [L8]
        unfold fX4_takeOldestTag_b4_s
        rw [if_pos (by decide), if_neg (by rw [m1ne (by omega)]; exact id), gd_nI he (by decide), nI_clamp (by omega), lk_eq, gd_nI he (by decide), wk_eq, r1 e he]
      · have L9 : fX9_freeTag_b32 (f + 1) m (nI e) (nI 6) = fX9_freeTag_b32_s (fX9_freeTag_b32 f) m (nI e) (nI 6) := rfl
        rw [L9]
        unfold fX9_freeTag_b32_s
        rw [if_pos (by decide), i332, gd_nI (by omega) (by decide), nI_clamp (by omega), lk_eq, gd_nI (by omega) (by decide), wk_eq]
  · intro f k hk ih acc hacc
    have L8 : fX4_takeOldestTag_b4 (f + 1) c acc (nI k) = fX4_takeOldestTag_b4_s (fX4_takeOldestTag_b4 f) c acc (nI k) := rfl
    have L9 : fX9_freeTag_b32 (f + 1) m acc (nI k) = fX9_freeTag_b32_s (fX9_freeTag_b32 f) m acc (nI k) := rfl
    rw [L8, L9]
    unfold fX4_takeOldestTag_b4_s fX9_freeTag_b32_s fX4_takeOldestTag_b33 fX9_freeTag_b83
    simp (disch := omega) only [ge6F, if_false, if_true, gd_nI, nI_clamp, r1 k hk, i332, na1, zero_eq0, one_eq0]
    rcases rv k hk with e | ⟨g, hg, e⟩
    · simp only [e, m1eq, m1lt, if_true]
      refine ih acc ?_
      rcases hacc with ⟨h1, u, h2, h3, h4⟩ | h
      · refine Or.inl ⟨h1, u, ?_, h3, h4⟩
        rcases Nat.lt_or_ge k u with h | h
        · exact h
        · have : u = k := by omega
          subst this
          exact absurd e h4
      · exact Or.inr h
    · have nm : m 1 (332 + k) ≠ -1 := by rw [e, Ne, m1ne (by omega)]; exact id
      have ns : ¬ nI k = c 3 4 := by
        rw [hnow]; intro h
        have := nI_inj (by omega) (by omega) h
        subst this
        exact nm hTs
      have e0 : (m 1 (332 + k) = -1) = False := eq_false nm
      have e1 : (m 1 (332 + k) < 0) = False := by rw [e]; exact ltz (by omega)
      have e2 : (nI k = c 3 4) = False := eq_false ns
      simp only [e0, e1, e2, if_false]
      rcases hacc with ⟨h1, -⟩ | ⟨a, ha, h1, h2⟩
      · simp only [h1, m1eq, m1lt, if_true]
        exact ih (nI k) (Or.inr ⟨k, hk, rfl, nm⟩)
      · obtain ⟨x1, y1, b1, b2⟩ := hx a ha
        obtain ⟨x2, y2, b3, b4⟩ := hx k hk
        have o := hO k a hk ha nm h2
        subst h1
        simp (disch := omega) only [m1ne, ltz, if_false, gd_nI, i338, nI_clamp, x1, x2, y1, y2, nle b1 b3, nle b2 b4]
        by_cases hl : x a ≤ x k
        · rw [if_pos hl, if_pos (show y a ≤ y k by omega)]
          exact ih (nI a) (Or.inr ⟨a, ha, rfl, h2⟩)
        · rw [if_neg hl, if_neg (show ¬ y a ≤ y k by omega)]
          exact ih (nI k) (Or.inr ⟨k, hk, rfl, nm⟩)
theorem cl_sp {m : Mm} {tag : Int32} {P1 P2 Q : Nat → Bool} (hP1 : ∀ k, k < 6 → (P1 k = true ↔ m 1 (192 + 7 * k) = tag)) (hP2 : ∀ k, k < 6 → (P2 k = true ↔ m 1 (234 + 7 * k) = tag)) (hQ : ∀ k, k < 4 → (Q k = true ↔ (m 1 (276 + 11 * k) = 1 ∧ m 1 (276 + 11 * k + 9) = tag))) : fX9_clearsTag m tag = some (aM Q 4 (dM 234 P2 6 (dM 192 P1 6 m)), ()) := by
  have key := down (P := fun f k => fX9_clearsTag_b2 f (dM 234 P2 k (dM 192 P1 k m)) tag (nI k) = some (aM Q 4 (dM 234 P2 6 (dM 192 P1 6 m)), ())) 6 ?_ ?_ 6 0 2000 rfl (by decide)
  · rw [dM_0, dM_0] at key; exact key
  · intro f
    have L : fX9_clearsTag_b2 (f + 1) (dM 234 P2 6 (dM 192 P1 6 m)) tag (nI 6) = fX9_clearsTag_b2_s (fX9_clearsTag_b2 f) (dM 234 P2 6 (dM 192 P1 6 m)) tag (nI 6) := rfl
    rw [L]
    unfold fX9_clearsTag_b2_s
    rw [if_pos (by decide)]
    exact b110_sp (fun k hk => by
      rw [dM_out (by omega), dM_out (by omega), dM_out (by omega), dM_out (by omega)]
      exact hQ k hk)
  · intro f k hk ih
    have L : fX9_clearsTag_b2 (f + 1) (dM 234 P2 k (dM 192 P1 k m)) tag (nI k) = fX9_clearsTag_b2_s (fX9_clearsTag_b2 f) (dM 234 P2 k (dM 192 P1 k m)) tag (nI k) := rfl
    rw [L]
    have e1 : dM 234 P2 k (dM 192 P1 k m) 1 (192 + 7 * k) = m 1 (192 + 7 * k) := by rw [dM_out (by omega), dM_out (by omega)]
    have e5 : dM 234 P2 k (dM 192 P1 (k + 1) m) 1 (234 + 7 * k) = m 1 (234 + 7 * k) := by rw [dM_out (by omega), dM_out (by omega)]
    have st2 : (if dM 234 P2 k (dM 192 P1 (k + 1) m) 1 (234 + 7 * k) = tag then fX9_clearsTag_b2 f (wr (dM 234 P2 k (dM 192 P1 (k + 1) m)) 1 (234 + 7 * k) (-1)) tag (nI (k + 1)) else fX9_clearsTag_b2 f (wr (dM 234 P2 k (dM 192 P1 (k + 1) m)) 1 (234 + 7 * k) (dM 234 P2 k (dM 192 P1 (k + 1) m) 1 (234 + 7 * k))) tag (nI (k + 1))) = some (aM Q 4 (dM 234 P2 6 (dM 192 P1 6 m)), ()) := by
      rw [wr_id, e5]
      by_cases h : m 1 (234 + 7 * k) = tag
      · rw [if_pos h, dM_yes ((hP2 k hk).mpr h)]; exact ih
      · rw [if_neg h, dM_no (Bool.eq_false_iff.mpr (fun z => h ((hP2 k hk).mp z)))]; exact ih
    unfold fX9_clearsTag_b2_s fX9_clearsTag_b54
    rw [if_neg (by rw [ge6F hk]; exact id), i192, i234, gd_nI (by omega) (by decide), gd_nI (by omega) (by decide), nI_clamp (by omega), e1]
    by_cases h : m 1 (192 + 7 * k) = tag
    · have pt := (hP1 k hk).mpr h
      rw [if_pos h, wk_eq, dM_comm (by omega) (by omega), dM_yes pt, ← dM_comm (by omega) (by omega)]
      simp (disch := omega) only [gd_nI, nI_clamp, wk_eq, na1]
      exact st2
    · have pf : P1 k = false := Bool.eq_false_iff.mpr (fun z => h ((hP1 k hk).mp z))
      have wi : wr (dM 234 P2 k (dM 192 P1 k m)) 1 (192 + 7 * k) (m 1 (192 + 7 * k)) = dM 234 P2 k (dM 192 P1 k m) := by
        have z := wr_id (dM 234 P2 k (dM 192 P1 k m)) 1 (192 + 7 * k)
        rw [e1] at z; exact z
      rw [if_neg h, gd_nI (by omega) (by decide), wk_eq, wi, dM_no pf]
      simp (disch := omega) only [gd_nI, nI_clamp, wk_eq, na1]
      exact st2
