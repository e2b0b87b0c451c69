/-! PURE: fence -/
theorem fence_loop {cap : Nat} {c : Mm} {ad sp tag : Int32} {Q : Nat → Bool} (hQ : ∀ k, k < 4 → (Q k = true ↔ (c (24 + 2 * k) 0 = 1 ∧ (c (24 + 2 * k) 4 = tag ∨ c (24 + 2 * k) 1 = ad)))) {r : Nat × Mm × Int32} (hend : bn (fX1_noteAddress cap (aC Q 4 c) sp ad (c 37 2)) (fun cap2 m9 => bw (fX5_dropAddress m9 7 tag ad) (fun m3 r2 => bw (fX5_dropAddress m3 15 tag ad) (fun m5 r4 => some (cap2, m5, (r2 + r4))))) = some r) : fX8_fence_b29 cap 2000 c ad sp tag 0 = some r := by
  have key := down (P := fun f k => fX8_fence_b29 cap f (aC Q k c) ad sp tag (nI k) = some r) 4 ?_ ?_ 4 0 2000 rfl (by decide)
  · rw [aC_0] at key; exact key
  · intro f
    have L : fX8_fence_b29 cap (f + 1) (aC Q 4 c) ad sp tag (nI 4) = fX8_fence_b29_s cap (fX8_fence_b29 cap f) (aC Q 4 c) ad sp tag (nI 4) := rfl
    rw [L]
    unfold fX8_fence_b29_s
    rw [if_pos (by decide), aC_out (b := 37) (by omega)]
    exact hend
  · intro f k hk ih
    have L : fX8_fence_b29 cap (f + 1) (aC Q k c) ad sp tag (nI k) = fX8_fence_b29_s cap (fX8_fence_b29 cap f) (aC Q k c) ad sp tag (nI k) := rfl
    have e : aC Q k c (24 + 2 * k) = c (24 + 2 * k) := aC_out (by omega)
    have b63 : (c (24 + 2 * k) 4 = tag ∨ c (24 + 2 * k) 1 = ad) → fX8_fence_b63 cap (fX8_fence_b29 cap f) (aC Q k c) ad sp tag (nI k) = some r := by
      intro h
      unfold fX8_fence_b63
      simp (disch := omega) only [gd_nI, nI_clamp, lkN_eq, Nat.reduceAdd, na1]
      rw [abort_st ⟨fun z => ((hQ k hk).mp z).1, fun z => (hQ k hk).mpr ⟨z, h⟩⟩, bw_eq]
      exact ih
    rw [L]
    unfold fX8_fence_b29_s
    simp (disch := omega) only [ge4F, if_false, gd_nI, nI_clamp, lkN_eq, Nat.reduceAdd, na1, e]
    by_cases h : c (24 + 2 * k) 4 = tag
    · rw [if_pos h]
      exact b63 (Or.inl h)
    · rw [if_neg h]
      by_cases h2 : c (24 + 2 * k) 1 = ad
      · rw [if_pos h2]
        exact b63 (Or.inr h2)
      · have qf : Q k = false := Bool.eq_false_iff.mpr (fun z => ((hQ k hk).mp z).2.elim h h2)
        rw [if_neg h2, aC_no qf]; exact ih
theorem pl_ad {n b q a : Nat} {c m : Mm} (h : RP n b q a c m) {k : Nat} (hk : k < 6) {ad tag : Int32} {Z Z' : Prop} (hz : c (b + k) 0 = 1 → c (b + k) 5 = m 1 (a + 7 * k + 4) → (Z ↔ Z')) : (¬ c (b + k) 0 = 0 ∧ fX8_firstOf ad (c (b + k) 2) = c (b + k) 3 ∧ (c (b + k) 1 = tag ∨ Z)) ↔ ((¬ m 1 (a + 7 * k) = -1 ∧ fX8_firstOf ad (m 1 (a + 7 * k + 1)) = m 1 (a + 7 * k + 2)) ∧ (m 1 (a + 7 * k) = tag ∨ Z')) := by
  rcases h.dich hk with ⟨e1, pf, g, hg, e⟩ | ⟨e1, e⟩
  · have nm : ¬ m 1 (a + 7 * k) = -1 := by rw [e, m1ne (by omega)]; exact id
    have nf : ¬ c (b + k) 0 = 0 := by rw [e1]; decide
    rw [pf.2.2.1, pf.2.2.2.1, pf.2.2.2.2.1]
    have := hz e1 pf.2.2.2.2.2.2.1
    exact ⟨fun x => ⟨⟨nm, x.2.1⟩, x.2.2.imp id this.mp⟩, fun x => ⟨nf, x.1.2, x.2.imp id this.mpr⟩⟩
  · exact ⟨fun x => absurd e1 x.1, fun x => absurd e x.1.1⟩
theorem st_fence : St_fence Rel := by
  intro n cap cm mm a1 a2 hn hr
  have h0 : Rel n cap cm (wr mm 0 0 0) := hr.scr Sc.rf (Sm.wr0 (m := mm) 0 0 (by decide))
  unfold fX8_fence fX9_fence
  rw [wk_eq]
  generalize wr mm 0 0 0 = m0 at h0
  have hN := h0.mono
  rcases rng a1 512 (by decide) with h | ⟨ad, had, rfl⟩
  · obtain ⟨e1, e2⟩ := ad_out h
    simp only [e1, e2, eq_self, if_true]
    exact ⟨_, _, _, -1, rfl, rfl, hN⟩
  obtain ⟨e1, e2⟩ := ad_in had
  rcases rng a2 6 (by decide) with h | ⟨s, hs, rfl⟩
  · obtain ⟨f1, f2⟩ := sp_out h
    simp only [e1, e2, f1, f2, one_eq0, eq_self, if_true, if_false]
    exact ⟨_, _, _, -1, rfl, rfl, hN⟩
  obtain ⟨f1, f2⟩ := sp_in hs
  obtain ⟨q1, q2, q3, q4, q5, q6, q7, q8, q9, q10, q11⟩ := id h0
  obtain ⟨g1, g2, g3, g4⟩ := q2.1 s hs
  obtain ⟨t, t1, t2, t3, -⟩ := id q9
  have w7 : ∀ i, wr m0 7 (512 * s + ad) (nI t) 1 i = m0 1 i := fun i => wr_b _ _ _ _ (by decide)
  obtain ⟨tag, htag⟩ : ∃ tag, m0 1 (332 + s) = tag := ⟨_, rfl⟩
  rw [htag] at g2
  have hQ : ∀ k, k < 4 → ((fun k => decide (m0 1 (276 + 11 * k) = 1 ∧ (m0 1 (276 + 11 * k + 9) = tag ∨ m0 1 (276 + 11 * k + 1) = nI ad))) k = true ↔ (m0 1 (276 + 11 * k) = 1 ∧ (m0 1 (276 + 11 * k + 9) = tag ∨ m0 1 (276 + 11 * k + 1) = nI ad))) := fun k _ => decide_eq_true_iff
  have hP1 : ∀ k, k < 6 → ((fun k => decide ((¬ m0 1 (192 + 7 * k) = -1 ∧ fX8_firstOf (nI ad) (m0 1 (192 + 7 * k + 1)) = m0 1 (192 + 7 * k + 2)) ∧ (m0 1 (192 + 7 * k) = tag ∨ ¬ m0 1 (192 + 7 * k + 4) &&& 8 = 0))) k = true ↔ ((¬ m0 1 (192 + 7 * k) = -1 ∧ fX8_firstOf (nI ad) (m0 1 (192 + 7 * k + 1)) = m0 1 (192 + 7 * k + 2)) ∧ (m0 1 (192 + 7 * k) = tag ∨ ¬ m0 1 (192 + 7 * k + 4) &&& 8 = 0))) := fun k _ => decide_eq_true_iff
  have hP2 : ∀ k, k < 6 → ((fun k => decide ((¬ m0 1 (234 + 7 * k) = -1 ∧ fX8_firstOf (nI ad) (m0 1 (234 + 7 * k + 1)) = m0 1 (234 + 7 * k + 2)) ∧ m0 1 (234 + 7 * k) = tag)) k = true ↔ ((¬ m0 1 (234 + 7 * k) = -1 ∧ fX8_firstOf (nI ad) (m0 1 (234 + 7 * k + 1)) = m0 1 (234 + 7 * k + 2)) ∧ m0 1 (234 + 7 * k) = tag)) := fun k _ => decide_eq_true_iff
  generalize (fun k => decide (m0 1 (276 + 11 * k) = 1 ∧ (m0 1 (276 + 11 * k + 9) = tag ∨ m0 1 (276 + 11 * k + 1) = nI ad))) = Q at hQ
  generalize (fun k => decide ((¬ m0 1 (192 + 7 * k) = -1 ∧ fX8_firstOf (nI ad) (m0 1 (192 + 7 * k + 1)) = m0 1 (192 + 7 * k + 2)) ∧ (m0 1 (192 + 7 * k) = tag ∨ ¬ m0 1 (192 + 7 * k + 4) &&& 8 = 0))) = P1 at hP1
  generalize (fun k => decide ((¬ m0 1 (234 + 7 * k) = -1 ∧ fX8_firstOf (nI ad) (m0 1 (234 + 7 * k + 1)) = m0 1 (234 + 7 * k + 2)) ∧ m0 1 (234 + 7 * k) = tag)) = P2 at hP2
  obtain ⟨cap', c2, n1, n2, n3⟩ := note_ad (c := aC Q 4 cm) (m := m0) (q10.cg (Nat.le_refl _) (aC_out (by omega)) (aC_out (by omega)) (aC_out (by omega)) (aC_out (by omega)) rfl rfl rfl) hn hs had t1
  have eb : ∀ k, k < 6 → c2 (9 + k) = cm (9 + k) := fun k hk => by
    rw [n2 _ (by omega), aC_out (by omega)]
  have eb2 : ∀ k, k < 6 → dC 9 P1 6 c2 (17 + k) = cm (17 + k) := fun k hk => by
    rw [dC_out (by omega), n2 _ (by omega), aC_out (by omega)]
  have d1 : fX5_dropAddress c2 7 tag (nI ad) = some (dC 9 P1 6 c2, nI (fa_cnt P1 6)) := dropAd_sp (q := 7) (P := P1) (fun k hk => by
    rw [show 7 + 1 + 1 + k = 9 + k by omega, eb k hk, hP1 k hk]
    exact (pl_ad q4 hk (fun _ e => by rw [e])).symm)
  have d2 : fX5_dropAddress (dC 9 P1 6 c2) 15 tag (nI ad) = some (dC 17 P2 6 (dC 9 P1 6 c2), nI (fa_cnt P2 6)) := dropAd_sp (q := 15) (P := P2) (fun k hk => by
    rw [show 15 + 1 + 1 + k = 17 + k by omega, eb2 k hk, hP2 k hk, ← or_false (m0 1 (234 + 7 * k) = tag)]
    refine (pl_ad q5 hk (fun f e => ?_)).symm
    obtain ⟨r, hr8, er⟩ := (q6.2 k hk f).2.1
    exact ⟨fun z => z (by rw [e, er]; exact and8 r hr8), fun z => z.elim⟩)
  have iz : (512 : Int32) * nI s + nI ad = nI (512 * s + ad) := by
    rw [show (512 : Int32) = nI 512 from rfl, nI_mul, nI_add]
  refine ⟨cap', dC 17 P2 6 (dC 9 P1 6 c2), aM Q 4 (dM 234 P2 6 (dM 192 P1 6 (wr m0 7 (512 * s + ad) (nI t)))), nI (fa_cnt P1 6 + fa_cnt P2 6), ?_, ?_, ?_⟩
  · rw [e1, if_neg one_ne, f1, if_neg one_ne, gd_nI hs (by decide), nI_clamp (by omega), g2, lk_eq]
    apply fence_loop (Q := Q) (fun k hk => by rw [hQ k hk, (q7 k hk).1, (q7 k hk).2.2.2.2.2.1, (q7 k hk).2.2.1])
    rw [t2, n1, bn_eq, d1, bw_eq, d2, bw_eq, nI_add]
  · rw [e2, if_neg one_ne, f2, if_neg one_ne, iz, gd_nI (by omega) (by decide), nI_clamp (by omega), wk_eq, t3, i332, gd_nI (by omega) (by decide), nI_clamp (by omega), lk_eq, w7, htag]
    exact b54_sp had (P1 := P1) (P2 := P2) (fun k hk => (q4.ok hk).cg (w7 _) (w7 _) (w7 _)) (fun k hk => (q5.ok hk).cg (w7 _) (w7 _) (w7 _)) (fun k hk => by rw [w7]; exact q4.vn hk) (fun k hk => by rw [w7]; exact q5.vn hk) (fun k hk => by rw [w7, w7, w7, w7]; exact hP1 k hk) (fun k hk => by rw [w7, w7, w7]; exact hP2 k hk) (b175_sp (fun k hk => by
      rw [dM_out (by omega), dM_out (by omega), dM_out (by omega), dM_out (by omega), dM_out (by omega), dM_out (by omega), w7, w7, w7]
      exact hQ k hk))
  · exact rel_mem h0 hn P1 P2 Q (fun b hb => n2 b hb) (by rw [wr_ne _ _ _ (by decide)]) (fun b hb => by rw [wr_ne _ _ _ (by omega)]) (by rw [wr_b _ _ _ _ (by decide)]) (by rw [wr_b _ _ _ _ (by decide)]) n3
