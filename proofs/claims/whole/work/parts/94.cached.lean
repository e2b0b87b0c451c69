/-! PURE: cached, upper -/
theorem iA (a k : Nat) : nI a + (7 : Int32) * nI k = nI (a + 7 * k) := by
  rw [show (7 : Int32) = nI 7 from rfl, nI_mul, nI_add]
theorem ul_both {n q a : Nat} {c m : Mm} (h : RP n (q + 1 + 1) q a c m) (hn : n < 512) (ha : a < 300) {j : Nat} (hj : j < 6) (hf : c (q + 1 + 1 + j) 0 = 1) : ∃ r, fX5_usedLaterThan c q (q + 1 + 1 + j) = some r ∧ fX9_usedLater m (nI a) (nI (a + 7 * j)) = some r := by
  obtain ⟨x, y, kc, km, r1, r2, r3, r4, r5, r6, r7⟩ := h
  have key := down (P := fun f k => ∀ acc, ∃ r, fX5_usedLaterThan_b4 f c q (q + 1 + 1 + j) acc (nI k) = some r ∧ fX9_usedLater_b5 f m (nI a) (nI (a + 7 * j)) acc (nI k) = some r) 6 ?_ ?_ 6 0 2000 rfl (by decide) 0
  · exact key
  · intro f acc
    exact ⟨acc, rfl, rfl⟩
  · intro f k hk ih acc
    have L8 : fX5_usedLaterThan_b4 (f + 1) c q (q + 1 + 1 + j) acc (nI k) = fX5_usedLaterThan_b4_s (fX5_usedLaterThan_b4 f) c q (q + 1 + 1 + j) acc (nI k) := rfl
    have L9 : fX9_usedLater_b5 (f + 1) m (nI a) (nI (a + 7 * j)) acc (nI k) = fX9_usedLater_b5_s (fX9_usedLater_b5 f) m (nI a) (nI (a + 7 * j)) acc (nI k) := rfl
    rw [L8, L9]
    unfold fX5_usedLaterThan_b4_s fX9_usedLater_b5_s
    rcases r5 j hj with ⟨-, u1, u2, u3, u4⟩ | ⟨e, -⟩
    · rcases r5 k hk with ⟨p0, p1, p2, p3, p4⟩ | ⟨p0, p1⟩
      · obtain ⟨g, hg, eg⟩ := p0.2.1
        have em := emp_f (m := m) (A := a + 7 * k) (by omega) hg eg
        simp (disch := omega) only [eq_self, l21, l12, l20, na0, Nat.reduceAdd, wk_eq, lk_eq, lkN_eq, bd_eq, bw_eq, gd_nI, nI_clamp, na1, na2, na3, na4, na5, na6, na7, na8, na9, i192, i234, i276, i326, i332, i338, i96, i0, i8, ge6F, ge6T, ge4F, ge4T, ltz, lez, Nat.one_mul, if_true, if_false, one_ne, one_eq0, zero_eq0, wr0_1, glit320, glit321, glit322, glit323, glit324, glit325, glit344, cl320, cl321, cl322, cl323, cl324, cl325, cl344, iA, em, p0.1, p1, p2, u1, u2, nle]
        have o := (r6 j k hj hk hf p0.1).1
        by_cases hx : x k ≤ x j
        · rw [if_pos hx, if_pos (show y k ≤ y j by omega), Int32.add_zero]
          exact ih acc
        · rw [if_neg hx, if_neg (show ¬ y k ≤ y j by omega)]
          exact ih (acc + 1)
      · have em := emp_t (m := m) (A := a + 7 * k) (by omega) p1
        simp (disch := omega) only [eq_self, l21, l12, l20, na0, Nat.reduceAdd, wk_eq, lk_eq, lkN_eq, bd_eq, bw_eq, gd_nI, nI_clamp, na1, na2, na3, na4, na5, na6, na7, na8, na9, i192, i234, i276, i326, i332, i338, i96, i0, i8, ge6F, ge6T, ge4F, ge4T, ltz, lez, Nat.one_mul, if_true, if_false, one_ne, one_eq0, zero_eq0, wr0_1, glit320, glit321, glit322, glit323, glit324, glit325, glit344, cl320, cl321, cl322, cl323, cl324, cl325, cl344, iA, em, p0]
        rw [Int32.add_zero]
        exact ih acc
    · rw [hf] at e; exact absurd e (by decide)
theorem held_at {c : Mm} {q k : Nat} (hk : k < 6) : fX5_heldAt c q (nI k) = if c (q + 1 + 1 + k) 0 = 0 then some none else some (some (q + 1 + 1 + k)) := by
  unfold fX5_heldAt
  simp (disch := omega) only [eq_self, l21, l12, l20, na0, Nat.reduceAdd, wk_eq, lk_eq, lkN_eq, bd_eq, bw_eq, gd_nI, nI_clamp, na1, na2, na3, na4, na5, na6, na7, na8, na9, i192, i234, i276, i326, i332, i338, i96, i0, i8, ge6F, ge6T, ge4F, ge4T, ltz, lez, Nat.one_mul, if_true, if_false, one_ne, one_eq0, zero_eq0, wr0_1, glit320, glit321, glit322, glit323, glit324, glit325, glit344, cl320, cl321, cl322, cl323, cl324, cl325, cl344]
theorem held_out {c : Mm} {q : Nat} {a : Int32} (h : a < 0 ∨ nI 6 ≤ a) : fX5_heldAt c q a = some none := by
  unfold fX5_heldAt
  by_cases h1 : a < 0
  · rw [if_pos h1]
  · rw [if_neg h1, if_pos (show (6 : Int32) ≤ a from h.resolve_left h1)]
theorem out_ge {a : Int32} {N : Nat} (hN : N + 1 < 2 ^ 31) (h : a < 0 ∨ nI (N + 1) ≤ a) : a < 0 ∨ (¬ a < 0 ∧ ¬ a ≤ nI N) := by
  by_cases h1 : a < 0
  · exact Or.inl h1
  · refine Or.inr ⟨h1, fun h2 => ?_⟩
    have := h.resolve_left h1
    rw [fa_le, nI_toInt hN] at this
    rw [fa_le, nI_toInt (by omega)] at h2
    omega
theorem isPl9 : ∀ k, k < 6 → isPlB (9 + k) = true := by decide
theorem isPl17 : ∀ k, k < 6 → isPlB (17 + k) = true := by decide
theorem st_cached : St_cached Rel := by
  intro n cap cm mm a1 a2 hn hr
  have bad : fX9_cached_b42 mm a2 (nI 192 + (7 : Int32) * a1) 1 = some (wr mm 0 0 1, 0) := rfl
  have hB : Rel (n + 1) cap cm (wr mm 0 0 1) := hr.next Sc.rf (Sm.wr0 0 1 (by decide))
  have h0 : Rel n cap cm (wr mm 0 0 0) := hr.scr Sc.rf (Sm.wr0 0 0 (by decide))
  have z0 : wr mm 0 0 0 0 0 = 0 := wr_same _ _ _ _
  have z1 : wr mm 0 0 0 1 = mm 1 := wr0_1 _ _ _
  rcases rng a1 6 (by decide) with h | ⟨k, hk, rfl⟩
  · refine ⟨cm, wr mm 0 0 1, none, 0, ?_, ?_, Or.inl ⟨rfl, wr_same _ _ _ _⟩, hB⟩
    · unfold fX8_cached
      rw [held_out h]; rfl
    · unfold fX9_cached
      rw [lk_eq, show fX9_within a1 0 5 = 0 from within_out (N := 6) (by decide) (by decide) h, if_pos rfl]; exact bad
  · have W5 : fX9_within (nI k) 0 5 = 1 := within_in (N := 6) hk (by decide)
    have HA : fX5_heldAt cm 7 (nI k) = if cm (9 + k) 0 = 0 then some none else some (some (9 + k)) := held_at (q := 7) hk
    rcases rng a2 8 (by decide) with h | ⟨z, hz, rfl⟩
    · refine ⟨cm, wr mm 0 0 1, none, 0, ?_, ?_, Or.inl ⟨rfl, wr_same _ _ _ _⟩, hB⟩
      · unfold fX8_cached
        rw [HA]
        by_cases f0 : cm (9 + k) 0 = 0
        · rw [if_pos f0]; rfl
        · rw [if_neg f0, bd_eq, oc_some _ _ (isPl9 k hk)]
          rcases out_ge (N := 7) (by decide) h with h1 | ⟨h1, h2⟩
          · rw [if_pos h1]
          · rw [if_neg h1, if_neg (show ¬ a2 ≤ (7 : Int32) from h2)]
      · unfold fX9_cached
        rw [lk_eq, W5, if_neg one_ne, show fX9_within a2 0 7 = 0 from within_out (N := 8) (by decide) (by decide) h, if_pos rfl]; exact bad
    · have W7 : fX9_within (nI z) 0 7 = 1 := within_in (N := 8) hz (by decide)
      rcases hr.2.2.2.1.dich hk with ⟨f1, pf, g, hg, eg⟩ | ⟨f0, eg⟩
      · have em := emp_f (m := mm) (A := 192 + 7 * k) (by omega) hg eg
        have nf : ¬ cm (9 + k) 0 = 0 := by rw [f1]; decide
        have L8 : fX8_cached cm (nI k) (nI z) = (if nI z = (5 : Int32) then some (cm, some (cm (9 + k) 6)) else if nI z = (6 : Int32) then bd (fX5_usedLaterThan cm 7 (9 + k)) (fun r7 => some (cm, some r7)) else if nI z = (7 : Int32) then bw (fX8_isStalePage cm (9 + k)) (fun m10 r9 => if r9 = 0 then some (m10, some (0 : Int32)) else some (m10, some (1 : Int32))) else bd (fX3_told cm (9 + k) (nI z)) (fun r12 => some (cm, some r12))) := by
          unfold fX8_cached
          rw [HA, if_neg nf, bd_eq, oc_some _ _ (isPl9 k hk), if_neg (nI_pos (by omega)), if_pos (show nI z ≤ (7 : Int32) from nI_le (b := 7) (by omega) (by decide))]
        have L9 : fX9_cached mm (nI k) (nI z) = (if (6 : Int32) ≤ nI z then (if nI z = (6 : Int32) then bd (fX9_usedLater (wr mm 0 0 0) 192 (nI (192 + 7 * k))) (fun r8 => some (wr mm 0 0 0, r8)) else bw (fX9_isStale (wr mm 0 0 0) (nI (192 + 7 * k))) (fun m6 r5 => if r5 = 0 then some (m6, (0 : Int32)) else some (m6, (1 : Int32)))) else gd (nI (192 + 7 * k) + nI z) 345 (some (wr mm 0 0 0, wr mm 0 0 0 1 (nI (192 + 7 * k) + nI z).toNatClampNeg))) := by
          unfold fX9_cached
          rw [lk_eq, W5, if_neg one_ne, W7, if_neg one_ne, i192, em, bd_eq, if_pos rfl]
          unfold fX9_cached_b42
          rw [wk_eq, z0, if_pos (by decide)]
        rw [L8, L9]
        obtain ⟨-, -, e1, e2, e3, e4, e5, e6, -⟩ := pf
        have hN := h0.mono
        have G : ∀ (i : Nat) (v : Int32), i < 6 → v = mm 1 (192 + 7 * k + i) → (if (6 : Int32) ≤ nI i then (if nI i = (6 : Int32) then bd (fX9_usedLater (wr mm 0 0 0) 192 (nI (192 + 7 * k))) (fun r8 => some (wr mm 0 0 0, r8)) else bw (fX9_isStale (wr mm 0 0 0) (nI (192 + 7 * k))) (fun m6 r5 => if r5 = 0 then some (m6, (0 : Int32)) else some (m6, (1 : Int32)))) else gd (nI (192 + 7 * k) + nI i) 345 (some (wr mm 0 0 0, wr mm 0 0 0 1 (nI (192 + 7 * k) + nI i).toNatClampNeg))) = some (wr mm 0 0 0, v) := by
          intro i v hi hv
          rw [if_neg (show ¬ (6 : Int32) ≤ nI i from nI_ge (b := 6) hi (by decide)), nI_add, gd_nI (by omega) (by decide), nI_clamp (by omega), z1, hv]
        rcases (show z = 0 ∨ z = 1 ∨ z = 2 ∨ z = 3 ∨ z = 4 ∨ z = 5 ∨ z = 6 ∨ z = 7 by omega) with rfl | rfl | rfl | rfl | rfl | rfl | rfl | rfl
        · exact ⟨cm, wr mm 0 0 0, _, _, rfl, G 0 (cm (9 + k) 1) (by decide) e1, Or.inr ⟨_, rfl, z0, rfl⟩, hN⟩
        · exact ⟨cm, wr mm 0 0 0, _, _, rfl, G 1 (cm (9 + k) 2) (by decide) e2, Or.inr ⟨_, rfl, z0, rfl⟩, hN⟩
        · exact ⟨cm, wr mm 0 0 0, _, _, rfl, G 2 (cm (9 + k) 3) (by decide) e3, Or.inr ⟨_, rfl, z0, rfl⟩, hN⟩
        · exact ⟨cm, wr mm 0 0 0, _, _, rfl, G 3 (cm (9 + k) 4) (by decide) e4, Or.inr ⟨_, rfl, z0, rfl⟩, hN⟩
        · exact ⟨cm, wr mm 0 0 0, _, _, rfl, G 4 (cm (9 + k) 5) (by decide) e5, Or.inr ⟨_, rfl, z0, rfl⟩, hN⟩
        · exact ⟨cm, wr mm 0 0 0, _, _, rfl, G 5 (cm (9 + k) 6) (by decide) e6, Or.inr ⟨_, rfl, z0, rfl⟩, hN⟩
        · obtain ⟨r, u1, u2⟩ := ul_both (q := 7) h0.2.2.2.1 hn (by decide) hk f1
          refine ⟨cm, wr mm 0 0 0, some r, r, ?_, ?_, Or.inr ⟨r, rfl, z0, rfl⟩, hN⟩
          · rw [show fX5_usedLaterThan cm 7 (9 + k) = some r from u1]; rfl
          · rw [show fX9_usedLater (wr mm 0 0 0) 192 (nI (192 + 7 * k)) = some r from u2]; rfl
        · obtain ⟨c', m', r, s1, s2, s3, s4, s5, s6⟩ := stale_pg h0 hk f1
          refine ⟨c', m', some r, r, ?_, ?_, Or.inr ⟨r, rfl, by rw [s5, z0], rfl⟩, h0.next s3 s4⟩
          · rw [s1, bw_eq]
            rcases s6 with rfl | rfl <;> rfl
          · rw [s2, bw_eq]
            rcases s6 with rfl | rfl <;> rfl
      · have em := emp_t (m := mm) (A := 192 + 7 * k) (by omega) eg
        refine ⟨cm, wr mm 0 0 1, none, 0, ?_, ?_, Or.inl ⟨rfl, wr_same _ _ _ _⟩, hB⟩
        · unfold fX8_cached
          rw [HA, if_pos f0]; rfl
        · unfold fX9_cached
          rw [lk_eq, W5, if_neg one_ne, W7, if_neg one_ne, i192, em, bd_eq, if_neg one_ne]; rfl
theorem st_upper : St_upper Rel := by
  intro n cap cm mm a1 a2 hn hr
  have bad : fX9_upper_b42 mm a2 (nI 234 + (7 : Int32) * a1) 1 = some (wr mm 0 0 1, 0) := rfl
  have hB : Rel (n + 1) cap cm (wr mm 0 0 1) := hr.next Sc.rf (Sm.wr0 0 1 (by decide))
  have h0 : Rel n cap cm (wr mm 0 0 0) := hr.scr Sc.rf (Sm.wr0 0 0 (by decide))
  have z0 : wr mm 0 0 0 0 0 = 0 := wr_same _ _ _ _
  have z1 : wr mm 0 0 0 1 = mm 1 := wr0_1 _ _ _
  rcases rng a1 6 (by decide) with h | ⟨k, hk, rfl⟩
  · refine ⟨cm, wr mm 0 0 1, none, 0, ?_, ?_, Or.inl ⟨rfl, wr_same _ _ _ _⟩, hB⟩
    · unfold fX8_upper
      rw [held_out h]; rfl
    · unfold fX9_upper
      rw [lk_eq, show fX9_within a1 0 5 = 0 from within_out (N := 6) (by decide) (by decide) h, if_pos rfl]; exact bad
  · have W5 : fX9_within (nI k) 0 5 = 1 := within_in (N := 6) hk (by decide)
    have HA : fX5_heldAt cm 15 (nI k) = if cm (17 + k) 0 = 0 then some none else some (some (17 + k)) := held_at (q := 15) hk
    rcases rng a2 7 (by decide) with h | ⟨z, hz, rfl⟩
    · refine ⟨cm, wr mm 0 0 1, none, 0, ?_, ?_, Or.inl ⟨rfl, wr_same _ _ _ _⟩, hB⟩
      · unfold fX8_upper
        rw [HA]
        by_cases f0 : cm (17 + k) 0 = 0
        · rw [if_pos f0]; rfl
        · rw [if_neg f0, bd_eq, oc_some _ _ (isPl17 k hk)]
          rcases out_ge (N := 6) (by decide) h with h1 | ⟨h1, h2⟩
          · rw [if_pos h1]
          · rw [if_neg h1, if_neg (show ¬ a2 ≤ (6 : Int32) from h2)]
      · unfold fX9_upper
        rw [lk_eq, W5, if_neg one_ne, show fX9_within a2 0 6 = 0 from within_out (N := 7) (by decide) (by decide) h, if_pos rfl]; exact bad
    · have W7 : fX9_within (nI z) 0 6 = 1 := within_in (N := 7) hz (by decide)
      rcases hr.2.2.2.2.1.dich hk with ⟨f1, pf, g, hg, eg⟩ | ⟨f0, eg⟩
      · have em := emp_f (m := mm) (A := 234 + 7 * k) (by omega) hg eg
        have nf : ¬ cm (17 + k) 0 = 0 := by rw [f1]; decide
        have L8 : fX8_upper cm (nI k) (nI z) = (if nI z = (5 : Int32) then bd (fX5_usedLaterThan cm 15 (17 + k)) (fun r6 => some (cm, some r6)) else if nI z = (6 : Int32) then bw (fX8_isStaleUpper cm (17 + k)) (fun m9 r8 => if r8 = 0 then some (m9, some (0 : Int32)) else some (m9, some (1 : Int32))) else bd (fX3_told cm (17 + k) (nI z)) (fun r11 => some (cm, some r11))) := by
          unfold fX8_upper
          rw [HA, if_neg nf, bd_eq, oc_some _ _ (isPl17 k hk), if_neg (nI_pos (by omega)), if_pos (show nI z ≤ (6 : Int32) from nI_le (b := 6) (by omega) (by decide))]
        have L9 : fX9_upper mm (nI k) (nI z) = (if (5 : Int32) ≤ nI z then (if nI z = (5 : Int32) then bd (fX9_usedLater (wr mm 0 0 0) 234 (nI (234 + 7 * k))) (fun r8 => some (wr mm 0 0 0, r8)) else bw (fX9_isStaleAbove (wr mm 0 0 0) (nI (234 + 7 * k))) (fun m6 r5 => if r5 = 0 then some (m6, (0 : Int32)) else some (m6, (1 : Int32)))) else gd (nI (234 + 7 * k) + nI z) 345 (some (wr mm 0 0 0, wr mm 0 0 0 1 (nI (234 + 7 * k) + nI z).toNatClampNeg))) := by
          unfold fX9_upper
          rw [lk_eq, W5, if_neg one_ne, W7, if_neg one_ne, i234, em, bd_eq, if_pos rfl]
          unfold fX9_upper_b42
          rw [wk_eq, z0, if_pos (by decide)]
        rw [L8, L9]
        obtain ⟨-, -, e1, e2, e3, e4, e5, e6, -⟩ := pf
        have hN := h0.mono
        have G : ∀ (i : Nat) (v : Int32), i < 5 → v = mm 1 (234 + 7 * k + i) → (if (5 : Int32) ≤ nI i then (if nI i = (5 : Int32) then bd (fX9_usedLater (wr mm 0 0 0) 234 (nI (234 + 7 * k))) (fun r8 => some (wr mm 0 0 0, r8)) else bw (fX9_isStaleAbove (wr mm 0 0 0) (nI (234 + 7 * k))) (fun m6 r5 => if r5 = 0 then some (m6, (0 : Int32)) else some (m6, (1 : Int32)))) else gd (nI (234 + 7 * k) + nI i) 345 (some (wr mm 0 0 0, wr mm 0 0 0 1 (nI (234 + 7 * k) + nI i).toNatClampNeg))) = some (wr mm 0 0 0, v) := by
          intro i v hi hv
          rw [if_neg (show ¬ (5 : Int32) ≤ nI i from nI_ge (b := 5) hi (by decide)), nI_add, gd_nI (by omega) (by decide), nI_clamp (by omega), z1, hv]
        rcases (show z = 0 ∨ z = 1 ∨ z = 2 ∨ z = 3 ∨ z = 4 ∨ z = 5 ∨ z = 6 by omega) with rfl | rfl | rfl | rfl | rfl | rfl | rfl
        · exact ⟨cm, wr mm 0 0 0, _, _, rfl, G 0 (cm (17 + k) 1) (by decide) e1, Or.inr ⟨_, rfl, z0, rfl⟩, hN⟩
        · exact ⟨cm, wr mm 0 0 0, _, _, rfl, G 1 (cm (17 + k) 2) (by decide) e2, Or.inr ⟨_, rfl, z0, rfl⟩, hN⟩
        · exact ⟨cm, wr mm 0 0 0, _, _, rfl, G 2 (cm (17 + k) 3) (by decide) e3, Or.inr ⟨_, rfl, z0, rfl⟩, hN⟩
        · exact ⟨cm, wr mm 0 0 0, _, _, rfl, G 3 (cm (17 + k) 4) (by decide) e4, Or.inr ⟨_, rfl, z0, rfl⟩, hN⟩
        · exact ⟨cm, wr mm 0 0 0, _, _, rfl, G 4 (cm (17 + k) 5) (by decide) e5, Or.inr ⟨_, rfl, z0, rfl⟩, hN⟩
        · obtain ⟨r, u1, u2⟩ := ul_both (q := 15) h0.2.2.2.2.1 hn (by decide) hk f1
          refine ⟨cm, wr mm 0 0 0, some r, r, ?_, ?_, Or.inr ⟨r, rfl, z0, rfl⟩, hN⟩
          · rw [show fX5_usedLaterThan cm 15 (17 + k) = some r from u1]; rfl
          · rw [show fX9_usedLater (wr mm 0 0 0) 234 (nI (234 + 7 * k)) = some r from u2]; rfl
        · obtain ⟨c', m', r, s1, s2, s3, s4, s5, s6⟩ := stale_up h0 hk f1
          refine ⟨c', m', some r, r, ?_, ?_, Or.inr ⟨r, rfl, by rw [s5, z0], rfl⟩, h0.next s3 s4⟩
          · rw [s1, bw_eq]
            rcases s6 with rfl | rfl <;> rfl
          · rw [s2, bw_eq]
            rcases s6 with rfl | rfl <;> rfl
      · have em := emp_t (m := mm) (A := 234 + 7 * k) (by omega) eg
        refine ⟨cm, wr mm 0 0 1, none, 0, ?_, ?_, Or.inl ⟨rfl, wr_same _ _ _ _⟩, hB⟩
        · unfold fX8_upper
          rw [HA, if_pos f0]; rfl
        · unfold fX9_upper
          rw [lk_eq, W5, if_neg one_ne, W7, if_neg one_ne, i234, em, bd_eq, if_neg one_ne]; rfl
