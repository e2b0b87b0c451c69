/-! PURE: entry, root -/
theorem shl2 : ∀ r, r < 16 → nI r <<< ((2 : Int32) &&& 31) = nI (4 * r) := by decide +kernel
theorem shl6 : ∀ r, r < 1000 → nI r <<< ((6 : Int32) &&& 31) = nI (64 * r) := by decide +kernel
theorem or_sum {k r t : Nat} (hk : k < 4) (hr : r < 16) : k ||| 4 * r ||| 64 * t = k + 4 * r + 64 * t := by
  have e1 : k ||| 4 * r = 4 * r + k := by
    rw [Nat.or_comm, show 4 * r = 2 ^ 2 * r from rfl, ← Nat.two_pow_add_eq_or_of_lt (by omega)]
  rw [e1, Nat.or_comm, show 64 * t = 2 ^ 6 * t from rfl, ← Nat.two_pow_add_eq_or_of_lt (by omega)]
  omega
theorem code_v {k r t : Nat} (h : (k = 1 ∧ r < 16 ∧ t < 12) ∨ (k = 2 ∧ r < 16 ∧ t < 1000)) : ((nI k ||| (nI r <<< ((2 : Int32) &&& 31))) ||| (nI t <<< ((6 : Int32) &&& 31))) = nI (k + 4 * r + 64 * t) := by
  rw [shl2 r (by omega), shl6 t (by omega), fa_or, fa_or, or_sum (by omega) (by omega)]
theorem Vc.new {k r t : Nat} (h : (k = 1 ∧ r < 16 ∧ t < 12) ∨ (k = 2 ∧ r < 16 ∧ t < 1000)) : Vc (nI (k + 4 * r + 64 * t)) := ⟨k, r, t, rfl, Or.inr h⟩
theorem Vc.zero : Vc 0 := ⟨0, 0, 0, rfl, Or.inl ⟨rfl, rfl, rfl⟩⟩
theorem entry_core {n cap : Nat} {cm mm : Mm} (hn : n < 512) (hr : Rel n cap cm mm) {t i : Nat} (ht : t < 12) (hi : i < 8) {v : Int32} (hv : Vc v) : ∃ (cm' mm' : Mm) (r : Int32), fX8_entry_b53 cm (nI (t * 8 + i)) (mm 1 (t * 8 + i)) v = some (cm', r) ∧ fX9_entry_b99 mm (nI t) (nI i) v = some (mm', r) ∧ Rel (n + 1) cap cm' mm' := by
  have ix : (8 : Int32) * nI t + nI i = nI (t * 8 + i) := by
    rw [i8, nI_add]; congr 1; omega
  unfold fX8_entry_b53 fX9_entry_b99
  simp only [lk_eq, ix]
  simp (disch := omega) only [eq_self, l21, l12, l20, na0, Nat.reduceAdd, wk_eq, lk_eq, lkN_eq, bd_eq, bw_eq, gd_nI, nI_clamp, na1, na2, na3, na4, na5, na6, na7, na8, na9, i192, i234, i276, i326, i332, i338, i96, i0, i8, ge6F, ge6T, ge4F, ge4T, ltz, lez, Nat.one_mul, if_true, if_false, one_ne, one_eq0, zero_eq0, wr0_1, glit320, glit321, glit322, glit323, glit324, glit325, glit344, cl320, cl321, cl322, cl323, cl324, cl325, cl344]
  by_cases h : mm 1 (t * 8 + i) = v
  · rw [if_pos h, if_pos h]
    exact ⟨_, _, _, rfl, rfl, hr.mono⟩
  · rw [if_neg h, if_neg h]
    obtain ⟨q1, q2, q3, q4, q5, q6, q7, q8, q9, q10, q11⟩ := id hr
    obtain ⟨c1, m1, w1, w2, w3, w4, w5, w6, w7, w8⟩ := note_sp q9 hn (key := nI (t * 8 + i)) (was := mm 1 (t * 8 + i)) (Or.inl ⟨_, by omega, rfl, (q1 _ (by omega)).2.2.1⟩)
    rw [w1, w2]
    refine ⟨_, _, _, rfl, rfl, ?_⟩
    have C : ∀ b, (b ≠ 37 ∧ b ≠ 38 ∧ b ≠ 39 ∧ b ≠ 1 ∧ b ≠ 2) → wr (wr c1 1 (t * 8 + i) v) 2 (t * 8 + i) 0 b = cm b := fun b hb => by
      rw [wr_ne _ _ _ hb.2.2.2.2, wr_ne _ _ _ hb.2.2.2.1, w4 b hb.1 hb.2.1 hb.2.2.1]
    have E : ∀ lo hi, (hi ≤ t * 8 + i ∨ t * 8 + i < lo) ∧ (hi ≤ 96 + (t * 8 + i) ∨ 96 + (t * 8 + i) < lo) → Ea lo hi mm (wr (wr m1 1 (t * 8 + i) v) 1 (96 + (t * 8 + i)) 0) := fun lo hi h => ((Ea.of lo hi w5).w1 (by omega)).w1 (by omega)
    have K : Ck n (n + 1) mm (wr (wr m1 1 (t * 8 + i) v) 1 (96 + (t * 8 + i)) 0) := hr.ck hn (E 320 321 (by omega) 320 (by omega) (by omega))
    have z : ∀ b, b ≠ 1 → wr (wr m1 1 (t * 8 + i) v) 1 (96 + (t * 8 + i)) 0 b = m1 b := fun b hb => by rw [wr_ne _ _ _ hb, wr_ne _ _ _ hb]
    have z8 : wr (wr m1 1 (t * 8 + i) v) 1 (96 + (t * 8 + i)) 0 0 8 = mm 0 8 := by rw [z 0 (by decide)]; exact w6
    have p6 : wr (wr m1 1 (t * 8 + i) v) 1 (96 + (t * 8 + i)) 0 6 = mm 6 := by rw [z 6 (by decide)]; exact w7
    have p7 : wr (wr m1 1 (t * 8 + i) v) 1 (96 + (t * 8 + i)) 0 7 = mm 7 := by rw [z 7 (by decide)]; exact w8
    have H : RH (n + 1) (wr (wr c1 1 (t * 8 + i) v) 2 (t * 8 + i) 0) (wr (wr m1 1 (t * 8 + i) v) 1 (96 + (t * 8 + i)) 0) := w3.cg (Nat.le_refl _) (by rw [wr_b _ _ _ _ (by decide), wr_b _ _ _ _ (by decide)]) (by rw [wr_ne _ _ _ (by decide), wr_ne _ _ _ (by decide)]) (by rw [wr_ne _ _ _ (by decide), wr_ne _ _ _ (by decide)]) (by rw [z 0 (by decide)]) (by rw [z 0 (by decide)]) (z 3 (by decide)) (z 4 (by decide)) (z 5 (by decide))
    have c11 : c1 1 = cm 1 := w4 1 (by decide) (by decide) (by decide)
    have c12 : c1 2 = cm 2 := w4 2 (by decide) (by decide) (by decide)
    have T : RT (wr (wr c1 1 (t * 8 + i) v) 2 (t * 8 + i) 0) (wr (wr m1 1 (t * 8 + i) v) 1 (96 + (t * 8 + i)) 0) := by
      intro j hj
      obtain ⟨y1, y2, y3, y4⟩ := q1 j hj
      by_cases hji : j = t * 8 + i
      · subst hji
        rw [wr_b _ _ _ _ (by decide), wr_same, wr_same, wr_i _ _ _ (by omega), wr_same, wr_same]
        exact ⟨rfl, rfl, hv, 0, by decide, rfl⟩
      · simp (disch := omega) only [wr_same, wr_i, wr_b, w5, c11, c12]
        exact ⟨y1, y2, y3, y4⟩
    exact ⟨T, q2.cg (by rw [C _ (by decide)]) (C _ (by decide)) (C _ (by decide)) (E _ _ (by omega)) (E 344 345 (by omega) 344 (by omega) (by omega)), q3.cg (C _ (by decide)) (C _ (by decide)) K (E _ _ (by omega)), q4.cg (fun k hk => C _ (by omega)) (by rw [C _ (by decide)]) K (E _ _ (by omega)), q5.cg (fun k hk => C _ (by omega)) (by rw [C _ (by decide)]) K (E _ _ (by omega)), q6.cg (fun k hk => C _ (by omega)) (fun k hk => C _ (by omega)) (E _ _ (by omega)), q7.cg (fun k hk => C _ (by omega)) (E _ _ (by omega)), q8.cg (C _ (by decide)) (E _ _ (by omega)), H, q10.cg (by omega) (C _ (by decide)) (C _ (by decide)) (C _ (by decide)) (C _ (by decide)) z8 p6 p7, q11.cg (E _ _ (by omega)) (E _ _ (by omega))⟩
theorem st_entry : St_entry Rel := by
  intro n cap cm mm a1 a2 a3 a4 a5 hn hr
  have h0 : Rel n cap cm (wr mm 0 0 0) := hr.scr Sc.rf (Sm.wr0 (m := mm) 0 0 (by decide))
  unfold fX8_entry fX9_entry
  rw [wk_eq]
  generalize wr mm 0 0 0 = m0 at h0
  have hN := h0.mono
  have bad : ∀ s, fX9_entry_b47 m0 a1 a2 a3 a4 a5 s = some (m0, -1) ∨ True := fun _ => Or.inr trivial
  rcases cell_cases a1 a2 with ⟨e1, e2⟩ | ⟨t, i, ht, hi, rfl, rfl, e1, e2⟩
  · rw [e1, if_pos rfl]
    have b47 : ∀ s, fX9_entry_b47 m0 a1 a2 a3 a4 a5 s = some (m0, -1) := fun s => by
      unfold fX9_entry_b47
      rw [e2, if_pos rfl]
    refine ⟨_, _, -1, rfl, ?_, hN⟩
    unfold fX9_entry_b25
    rw [b47, b47]
    split
    · rfl
    · split
      · split
        · split
          · split <;> rfl
          · rfl
        · rfl
      · split
        · split <;> rfl
        · rfl
  · rw [e1, if_neg one_ne, cell_eq, lk_eq, lk_eq]
    have g := h0.1 (t * 8 + i) (by omega)
    simp (disch := omega) only [eq_self, l21, l12, l20, na0, Nat.reduceAdd, wk_eq, lk_eq, lkN_eq, bd_eq, bw_eq, gd_nI, nI_clamp, na1, na2, na3, na4, na5, na6, na7, na8, na9, i192, i234, i276, i326, i332, i338, i96, i0, i8, ge6F, ge6T, ge4F, ge4T, ltz, lez, Nat.one_mul, if_true, if_false, one_ne, one_eq0, zero_eq0, wr0_1, glit320, glit321, glit322, glit323, glit324, glit325, glit344, cl320, cl321, cl322, cl323, cl324, cl325, cl344]
    rw [g.1]
    have b47 : ∀ s, fX9_entry_b47 m0 (nI t) (nI i) a3 a4 a5 s = if s = 0 then some (m0, -1) else if a3 ≤ 0 then fX9_entry_b79 m0 (nI t) (nI i) a3 a4 a5 else if (fX9_within a5 (0 : Int32) (15 : Int32)) = 0 then some (m0, (-1 : Int32)) else fX9_entry_b79 m0 (nI t) (nI i) a3 a4 a5 := fun s => by
      unfold fX9_entry_b47
      rw [e2, if_neg one_ne]
    unfold fX9_entry_b25
    rw [b47, b47]
    by_cases k0 : a3 = 0
    · subst k0
      rw [show fX8_isEntry 0 a4 a5 = 1 from rfl, show fX9_entry_b79 m0 (nI t) (nI i) 0 a4 a5 = fX9_entry_b99 m0 (nI t) (nI i) 0 from rfl]
      simp only [if_pos (show (0 : Int32) ≤ 0 by decide), eq_self, if_true, one_eq0, if_false]
      exact entry_core hn h0 ht hi Vc.zero
    · have f0 : (a3 = 0) = False := eq_false k0
      by_cases kk : a3 = 1 ∨ a3 = 2
      · have hp : (a3 ≤ 0) = False := by rcases kk with rfl | rfl <;> exact eq_false (by decide)
        have b79 : fX9_entry_b79 m0 (nI t) (nI i) a3 a4 a5 = fX9_entry_b99 m0 (nI t) (nI i) ((a3 ||| (a5 <<< ((2 : Int32) &&& 31))) ||| (a4 <<< ((6 : Int32) &&& 31))) := by
          unfold fX9_entry_b79
          rw [if_neg k0]
        simp only [f0, hp, b79, one_eq0, eq_self, if_false, if_true]
        rcases rng a5 16 (by decide) with h5 | ⟨r, h5, rfl⟩
        · have e8 : fX8_isEntry a3 a4 a5 = 0 := by
            unfold fX8_isEntry
            rw [if_neg k0]
            by_cases h : a5 < 0
            · rw [if_pos h]
            · rw [if_neg h, if_pos]
              have := h5.resolve_left h
              rw [fa_le] at this
              rw [fa_lt]
              have y1 : (nI 16).toInt = 16 := by decide
              have y2 : (15 : Int32).toInt = 15 := by decide
              omega
          refine ⟨_, _, -1, ?_, ?_, hN⟩
          · simp only [e8, eq_self, if_true]
          · simp only [show fX9_within a5 0 15 = 0 from within_out (N := 16) (by decide) (by decide) h5, eq_self, if_true]
            split
            · split
              · split
                · split <;> rfl
                · rfl
              · rfl
            · split
              · split <;> rfl
              · rfl
        · simp only [show fX9_within (nI r) 0 15 = 1 from within_in (N := 16) h5 (by decide), one_eq0, if_false]
          rcases kk with rfl | rfl
          · rcases rng a4 12 (by decide) with h4 | ⟨u, h4, rfl⟩
            · have e8 : fX8_isEntry 1 a4 (nI r) = 0 := by
                unfold fX8_isEntry fX8_isEntry_b33
                rw [if_neg k0, if_neg (nI_pos (by omega)), if_neg (show ¬ (15 : Int32) < nI r from nI_nlt (a := 15) (by omega) (by decide))]
                simp only [eq_self, if_true, l12, if_false]
                by_cases h : a4 < 0
                · rw [if_neg]
                  intro h'
                  rw [fa_lt] at h
                  rw [fa_le] at h'
                  omega
                · rw [if_neg (show ¬ a4 < 12 from ?_)]
                  · split <;> rfl
                  · intro h'
                    have := h4.resolve_left h
                    rw [fa_le] at this
                    rw [fa_lt] at h'
                    have y1 : (nI 12).toInt = (12 : Int32).toInt := by decide
                    omega
              simp only [e8, show fX9_within a4 0 11 = 0 from within_out (N := 12) (by decide) (by decide) h4, eq_self, if_true, l12, if_false]
              exact ⟨_, _, -1, rfl, rfl, hN⟩
            · have e8 : fX8_isEntry 1 (nI u) (nI r) = 1 := by
                unfold fX8_isEntry
                rw [if_neg k0, if_neg (nI_pos (by omega)), if_neg (show ¬ (15 : Int32) < nI r from nI_nlt (a := 15) (by omega) (by decide)), if_pos (show (0 : Int32) ≤ nI u from nI_le (a := 0) (by omega) (by omega)), if_pos rfl, if_pos (show nI u < (12 : Int32) from nI_lt (b := 12) h4 (by decide))]
              have cv : ((1 : Int32) ||| (nI r <<< ((2 : Int32) &&& 31))) ||| (nI u <<< ((6 : Int32) &&& 31)) = _ := code_v (k := 1) (Or.inl ⟨rfl, h5, h4⟩)
              unfold fX8_codeOf
              simp only [e8, show fX9_within (nI u) 0 11 = 1 from within_in (N := 12) h4 (by decide), one_eq0, eq_self, if_true, if_false, cv]
              exact entry_core hn h0 ht hi (Vc.new (Or.inl ⟨rfl, h5, h4⟩))
          · rcases rng a4 1000 (by decide) with h4 | ⟨u, h4, rfl⟩
            · have e8 : fX8_isEntry 2 a4 (nI r) = 0 := by
                unfold fX8_isEntry fX8_isEntry_b33
                rw [if_neg k0, if_neg (nI_pos (by omega)), if_neg (show ¬ (15 : Int32) < nI r from nI_nlt (a := 15) (by omega) (by decide))]
                simp only [l21, if_false, eq_self, if_true]
                by_cases h : a4 < 0
                · rw [if_neg]
                  intro h'
                  rw [fa_lt] at h
                  rw [fa_le] at h'
                  omega
                · rw [if_pos (show (1000 : Int32) ≤ a4 from h4.resolve_left h)]
                  split <;> rfl
              simp only [e8, show fX9_within a4 0 999 = 0 from within_out (N := 1000) (by decide) (by decide) h4, eq_self, if_true, l21, if_false]
              exact ⟨_, _, -1, rfl, rfl, hN⟩
            · have e8 : fX8_isEntry 2 (nI u) (nI r) = 1 := by
                unfold fX8_isEntry fX8_isEntry_b33
                rw [if_neg k0, if_neg (nI_pos (by omega)), if_neg (show ¬ (15 : Int32) < nI r from nI_nlt (a := 15) (by omega) (by decide)), if_pos (show (0 : Int32) ≤ nI u from nI_le (a := 0) (by omega) (by omega))]
                simp only [l21, if_false, eq_self, if_true]
                rw [if_neg (show ¬ (1000 : Int32) ≤ nI u from nI_ge (b := 1000) h4 (by decide))]
              have cv : ((2 : Int32) ||| (nI r <<< ((2 : Int32) &&& 31))) ||| (nI u <<< ((6 : Int32) &&& 31)) = _ := code_v (k := 2) (Or.inr ⟨rfl, h5, h4⟩)
              unfold fX8_codeOf
              simp only [e8, show fX9_within (nI u) 0 999 = 1 from within_in (N := 1000) h4 (by decide), one_eq0, eq_self, if_true, if_false, l21, cv]
              exact entry_core hn h0 ht hi (Vc.new (Or.inr ⟨rfl, h5, h4⟩))
      · have k1 : (a3 = 1) = False := eq_false (fun h => kk (Or.inl h))
        have k2 : (a3 = 2) = False := eq_false (fun h => kk (Or.inr h))
        have e8 : fX8_isEntry a3 a4 a5 = 0 := by
          unfold fX8_isEntry fX8_isEntry_b33
          simp only [f0, k1, k2, if_false]
          split
          · rfl
          · split
            · rfl
            · split <;> rfl
        simp only [e8, f0, k1, k2, eq_self, if_true, if_false]
        exact ⟨_, _, -1, rfl, rfl, hN⟩
theorem st_root : St_root Rel := by
  intro n cap cm mm a1 a2 hn hr
  have h0 : Rel n cap cm (wr mm 0 0 0) := hr.scr Sc.rf (Sm.wr0 (m := mm) 0 0 (by decide))
  unfold fX8_root fX9_root
  rw [wk_eq]
  generalize wr mm 0 0 0 = m0 at h0
  have hN := h0.mono
  rcases rng a1 6 (by decide) with h | ⟨s, hs, rfl⟩
  · obtain ⟨e1, e2⟩ := sp_out h
    simp only [e1, e2, eq_self, if_true]
    exact ⟨_, _, -2, rfl, rfl, hN⟩
  · obtain ⟨e1, e2⟩ := sp_in hs
    have hv : (a2 < -1 ∧ fX9_within a2 (-1) 11 = 0) ∨ (¬ a2 < -1 ∧ ¬ a2 < 12 ∧ fX9_within a2 (-1) 11 = 0) ∨ (¬ a2 < -1 ∧ a2 < 12 ∧ fX9_within a2 (-1) 11 = 1 ∧ Vn 12 a2) := by
      unfold fX9_within
      by_cases h1 : a2 < -1
      · exact Or.inl ⟨h1, if_pos h1⟩
      · by_cases h2 : a2 < 12
        · refine Or.inr (Or.inr ⟨h1, h2, ?_, ?_⟩)
          · rw [if_neg h1, if_neg]
            rw [fa_lt] at h2 ⊢
            have y1 : (12 : Int32).toInt = 12 := by decide
            have y2 : (11 : Int32).toInt = 11 := by decide
            omega
          · by_cases h3 : a2 < 0
            · left
              rw [fa_eq]
              rw [fa_lt] at h1 h3
              have y1 : (-1 : Int32).toInt = -1 := by decide
              have y2 : (0 : Int32).toInt = 0 := by decide
              omega
            · obtain ⟨j, hj, rfl⟩ := nI_of h3
              right
              refine ⟨j, ?_, rfl⟩
              rw [fa_lt, nI_toInt hj] at h2
              have y1 : (12 : Int32).toInt = 12 := by decide
              omega
        · refine Or.inr (Or.inl ⟨h1, h2, ?_⟩)
          rw [if_neg h1, if_pos]
          rw [fa_lt] at h2 ⊢
          have y1 : (12 : Int32).toInt = 12 := by decide
          have y2 : (11 : Int32).toInt = 11 := by decide
          omega
    obtain ⟨q1, q2, q3, q4, q5, q6, q7, q8, q9, q10, q11⟩ := id h0
    obtain ⟨g1, g2, g3, g4⟩ := q2.1 s hs
    simp (disch := omega) only [eq_self, l21, l12, l20, na0, Nat.reduceAdd, wk_eq, lk_eq, lkN_eq, bd_eq, bw_eq, gd_nI, nI_clamp, na1, na2, na3, na4, na5, na6, na7, na8, na9, i192, i234, i276, i326, i332, i338, i96, i0, i8, ge6F, ge6T, ge4F, ge4T, ltz, lez, Nat.one_mul, if_true, if_false, one_ne, one_eq0, zero_eq0, wr0_1, glit320, glit321, glit322, glit323, glit324, glit325, glit344, cl320, cl321, cl322, cl323, cl324, cl325, cl344, e1, e2, g1]
    rcases hv with ⟨h1, h2⟩ | ⟨h1, h2, h3⟩ | ⟨h1, h2, h3, h4⟩
    · simp only [h1, h2, eq_self, if_true]
      exact ⟨_, _, -2, rfl, rfl, hN⟩
    · simp only [h1, h2, h3, eq_self, if_true, if_false]
      exact ⟨_, _, -2, rfl, rfl, hN⟩
    · simp only [h1, h2, h3, one_eq0, if_true, if_false]
      by_cases hx : m0 1 (326 + s) = a2
      · simp only [hx, if_true]
        exact ⟨_, _, _, rfl, rfl, hN⟩
      · simp only [hx, if_false]
        unfold fX8_rootKey
        obtain ⟨c1, m1, w1, w2, w3, w4, w5, w6, w7, w8⟩ := note_sp q9 hn (key := nI (96 + s)) (was := m0 1 (326 + s)) (Or.inr ⟨s, hs, rfl, g3⟩)
        rw [i96, w1, w2]
        refine ⟨_, _, _, rfl, rfl, ?_⟩
        have C : ∀ b, (b ≠ 37 ∧ b ≠ 38 ∧ b ≠ 39 ∧ b ≠ 4) → wr c1 4 s a2 b = cm b := fun b hb => by
          rw [wr_ne _ _ _ hb.2.2.2, w4 b hb.1 hb.2.1 hb.2.2.1]
        have E : ∀ lo hi, (hi ≤ 326 + s ∨ 326 + s < lo) → Ea lo hi m0 (wr m1 1 (326 + s) a2) := fun lo hi h => (Ea.of lo hi w5).w1 (by omega)
        have K : Ck n (n + 1) m0 (wr m1 1 (326 + s) a2) := h0.ck hn (E 320 321 (by omega) 320 (by omega) (by omega))
        have z : ∀ b, b ≠ 1 → wr m1 1 (326 + s) a2 b = m1 b := fun b hb => by rw [wr_ne _ _ _ hb]
        have z8 : wr m1 1 (326 + s) a2 0 8 = m0 0 8 := by rw [z 0 (by decide)]; exact w6
        have p6 : wr m1 1 (326 + s) a2 6 = m0 6 := by rw [z 6 (by decide)]; exact w7
        have p7 : wr m1 1 (326 + s) a2 7 = m0 7 := by rw [z 7 (by decide)]; exact w8
        have H : RH (n + 1) (wr c1 4 s a2) (wr m1 1 (326 + s) a2) := w3.cg (Nat.le_refl _) (by rw [wr_b _ _ _ _ (by decide)]) (by rw [wr_ne _ _ _ (by decide)]) (by rw [wr_ne _ _ _ (by decide)]) (by rw [z 0 (by decide)]) (by rw [z 0 (by decide)]) (z 3 (by decide)) (z 4 (by decide)) (z 5 (by decide))
        have S : RS (wr c1 4 s a2) (wr m1 1 (326 + s) a2) := by
          obtain ⟨r1, r2, r3, r4, r5⟩ := q2
          have ee := E 332 345 (by omega)
          refine ⟨fun j hj => ?_, by rw [C 3 (by decide), ee 344 (by omega) (by omega)]; exact r2, by rw [ee 344 (by omega) (by omega)]; exact r3, fun j k hj hk => ?_, fun j hj => ?_⟩
          · obtain ⟨y1, y2, y3, y4⟩ := r1 j hj
            rw [ee (332 + j) (by omega) (by omega), C 5 (by decide)]
            by_cases hjs : j = s
            · subst hjs
              rw [wr_same, wr_same]
              exact ⟨rfl, y2, h4, y4⟩
            · rw [wr_i _ _ _ hjs, wr_i _ _ _ (by omega), w5, w4 4 (by decide) (by decide) (by decide)]
              exact ⟨y1, y2, y3, y4⟩
          · rw [ee (332 + j) (by omega) (by omega), ee (332 + k) (by omega) (by omega)]; exact r4 j k hj hk
          · rw [ee (332 + j) (by omega) (by omega), ee 344 (by omega) (by omega)]; exact r5 j hj
        exact ⟨q1.cg (C _ (by decide)) (C _ (by decide)) (E _ _ (by omega)), S, q3.cg (C _ (by decide)) (C _ (by decide)) K (E _ _ (by omega)), q4.cg (fun k hk => C _ (by omega)) (by rw [C _ (by decide)]) K (E _ _ (by omega)), q5.cg (fun k hk => C _ (by omega)) (by rw [C _ (by decide)]) K (E _ _ (by omega)), q6.cg (fun k hk => C _ (by omega)) (fun k hk => C _ (by omega)) (E _ _ (by omega)), q7.cg (fun k hk => C _ (by omega)) (E _ _ (by omega)), q8.cg (C _ (by decide)) (E _ _ (by omega)), H, q10.cg (by omega) (C _ (by decide)) (C _ (by decide)) (C _ (by decide)) (C _ (by decide)) z8 p6 p7, q11.cg (E _ _ (by omega)) (E _ _ (by omega))⟩
