/-! PURE: way, reverse, through, what is stale -/
theorem tr_whole {c m : Mm} (hT : RT c m) (hS : RS c m) {s a : Nat} (hs : s < 6) (ha : a < 512) : ∃ c', fX8_trace c (nI s) (nI a) = some (c', ()) ∧ Sc c c' ∧ (∀ j, j < 3 → c' 35 j = -1 ∨ ∃ x, x < 96 ∧ c' 35 j = nI x) ∧
  (∃ m' r, fX9_walksNow m (nI s) (nI a) 0 = some (m', r) ∧ Sm m m' ∧ m' 0 0 = m 0 0 ∧ ((r = 0 ∧ c' 34 2 = 0 ∧ ∃ le x, le ≤ 2 ∧ x < 96 ∧ m' 0 18 = nI le ∧ c' 34 3 = nI le ∧ m' 0 17 = nI x ∧ c' 35 le = nI x ∧ c' 34 4 = fX9_targetOf (m 1 x) ∧ c' 34 5 = (m' 0 19 ||| (fX9_rightsOf (m 1 x) &&& 8)) ∧ fX9_whatOf (m 1 x) = 2) ∨ ((r = 1 ∨ r = 2 ∨ r = 3) ∧ c' 34 2 = r))) ∧
  (∀ mo, mo ≤ 2 → 0 < mo → ∃ m' r, fX9_walksNow m (nI s) (nI a) (nI mo) = some (m', r) ∧ Sm m m' ∧ m' 0 0 = m 0 0 ∧ ((r = 3 ∧ ∃ x, x < 96 ∧ c' 35 mo = nI x ∧ m' 0 17 = nI x ∧ c' 36 mo = m' 0 19 ∧ fX9_whatOf (m 1 x) = 1) ∨ (¬ r = 3 ∧ (c' 35 mo = -1 ∨ ∃ x, x < 96 ∧ c' 35 mo = nI x ∧ ¬ fX9_whatOf (m 1 x) = 1)))) ∧
  (∀ y, y < 96 → ∃ r, fX9_passes m (nI s) (nI a) (nI y) = some r ∧ ((r = 1 ∧ ∃ j, j < 3 ∧ c' 35 j = nI y) ∨ (r = 0 ∧ ∀ j, j < 3 → ¬ c' 35 j = nI y))) := by
  obtain ⟨c1, f1, f2, f3⟩ := fill3 c 35 (-1)
  have Sc1 : Sc c (wr c1 34 2 0) := fun b hb => by
    have h34 : b ≠ 34 := fun e => by subst e; cases hb
    have h35 : b ≠ 35 := fun e => by subst e; cases hb
    rw [wr_ne _ _ _ h34, f2 b h35]
  have Sm1 : Sm m (wr (wr m 0 19 7) 0 18 2) := (Sm.wr0 _ _ (by decide)).tr (Sm.wr0 _ _ (by decide))
  obtain ⟨g1, -, g3, -⟩ := hS.1 s hs
  have tr0 : fX8_trace c (nI s) (nI a) = if m 1 (326 + s) = -1 then some (wr (wr c1 34 2 0) 34 2 1, ()) else fX8_trace_b38 2000 (wr c1 34 2 0) (nI a) (m 1 (326 + s)) 7 2 := by
    unfold fX8_trace fX7_reset
    rw [f1]
    have e4 : wr c1 34 2 0 4 = c 4 := Sc1 4 rfl
    simp (disch := omega) only [eq_self, l21, l12, l20, na0, Nat.reduceAdd, wk_eq, lk_eq, lkN_eq, bd_eq, bw_eq, gd_nI, nI_clamp, na1, na2, na3, na4, na5, na6, na7, na8, na9, i192, i234, i276, i326, i332, i338, i96, i0, i8, ge6F, ge6T, ge4F, ge4T, ltz, lez, Nat.one_mul, if_true, if_false, one_ne, one_eq0, zero_eq0, wr0_1, glit320, glit321, glit322, glit323, glit324, glit325, glit344, cl320, cl321, cl322, cl323, cl324, cl325, cl344, e4, g1]
  have wn0 : ∀ mo, fX9_walksNow m (nI s) (nI a) mo = if (0 : Int32) ≤ m 1 (326 + s) then fX9_walksNow_b33 2000 (wr (wr m 0 19 7) 0 18 2) (nI a) mo (m 1 (326 + s)) 2 else some (wr (wr m 0 19 7) 0 18 2, 1) := fun mo => by
    unfold fX9_walksNow
    simp (disch := omega) only [eq_self, l21, l12, l20, na0, Nat.reduceAdd, wk_eq, lk_eq, lkN_eq, bd_eq, bw_eq, gd_nI, nI_clamp, na1, na2, na3, na4, na5, na6, na7, na8, na9, i192, i234, i276, i326, i332, i338, i96, i0, i8, ge6F, ge6T, ge4F, ge4T, ltz, lez, Nat.one_mul, if_true, if_false, one_ne, one_eq0, zero_eq0, wr0_1, glit320, glit321, glit322, glit323, glit324, glit325, glit344, cl320, cl321, cl322, cl323, cl324, cl325, cl344]
  have ps0 : ∀ y, fX9_passes m (nI s) (nI a) y = fX9_passes_b18 2000 m (nI a) y 0 (m 1 (326 + s)) 2 := fun y => by
    unfold fX9_passes
    simp (disch := omega) only [eq_self, l21, l12, l20, na0, Nat.reduceAdd, wk_eq, lk_eq, lkN_eq, bd_eq, bw_eq, gd_nI, nI_clamp, na1, na2, na3, na4, na5, na6, na7, na8, na9, i192, i234, i276, i326, i332, i338, i96, i0, i8, ge6F, ge6T, ge4F, ge4T, ltz, lez, Nat.one_mul, if_true, if_false, one_ne, one_eq0, zero_eq0, wr0_1, glit320, glit321, glit322, glit323, glit324, glit325, glit344, cl320, cl321, cl322, cl323, cl324, cl325, cl344]
  have c35 : ∀ j, j < 3 → wr c1 34 2 0 35 j = -1 := fun j hj => by rw [wr_b _ _ _ _ (by decide)]; exact f3 j hj
  rcases g3 with e | ⟨t, ht, e⟩
  · rw [e] at tr0 wn0 ps0
    refine ⟨_, tr0, Sc1.tr (Sc.wr _ _ _ rfl), fun j hj => Or.inl (by rw [wr_b _ _ _ _ (by decide)]; exact c35 j hj), ?_, ?_, ?_⟩
    · exact ⟨_, 1, wn0 0, Sm1, by simp (disch := omega) only [wr_same, wr_i, wr_b], Or.inr ⟨Or.inl rfl, wr_same _ _ _ _⟩⟩
    · intro mo h1 h2
      exact ⟨_, 1, wn0 _, Sm1, by simp (disch := omega) only [wr_same, wr_i, wr_b], Or.inr ⟨by decide, Or.inl (by rw [wr_b _ _ _ _ (by decide)]; exact c35 mo (by omega))⟩⟩
    · intro y hy
      refine ⟨0, by rw [ps0]; exact ps_end (f := 1999) 0 (Or.inl rfl) (Or.inl (by decide)), Or.inr ⟨rfl, fun j hj => ?_⟩⟩
      rw [wr_b _ _ _ _ (by decide), c35 j hj]
      intro e2
      exact nI_pos (show y < 2 ^ 31 by omega) (by rw [← e2]; decide)
  · rw [e] at tr0 wn0 ps0
    rw [if_neg (by rw [m1ne (by omega)]; exact id)] at tr0
    simp only [if_pos (show (0 : Int32) ≤ nI t from nI_le (a := 0) (by omega) (by omega))] at wn0
    obtain ⟨c', i1, i2, i3, i4, ⟨m', r, i5, i6, i7, i8⟩, i9, i10⟩ := tw_all ha 2 (by decide) 2000 t (wr c1 34 2 0) (wr (wr m 0 19 7) 0 18 2) 7 (by decide) ht (hT.cg (Sc1 1 rfl) (Sc1 2 rfl) ((Ea.rf.wb (by decide)).wb (by decide))) (by simp (disch := omega) only [wr_same, wr_i, wr_b])
    have z1 : wr (wr m 0 19 7) 0 18 2 1 = m 1 := Sm1.1
    have z0 : wr (wr m 0 19 7) 0 18 2 0 0 = m 0 0 := by simp (disch := omega) only [wr_same, wr_i, wr_b]
    rw [z1] at i8
    refine ⟨c', by rw [tr0]; exact i1, Sc1.tr i2, ?_, ?_, ?_, ?_⟩
    · intro j hj
      rcases i4 j (by omega) with h | h
      · left
        rw [h, c35 j hj]
      · exact Or.inr h
    · refine ⟨m', r, by rw [wn0]; exact i5, Sm1.tr i6, by rw [i7, z0], ?_⟩
      rcases i8 with ⟨e1, e2, h⟩ | ⟨e1, e2⟩
      · exact Or.inl ⟨e1, by rw [e2, wr_same], h⟩
      · exact Or.inr ⟨Or.inr e1, e2⟩
    · intro mo h1 h2
      obtain ⟨m'', r'', j1, j2, j3, j4⟩ := i9 mo h1 h2
      refine ⟨m'', r'', by rw [wn0]; exact j1, Sm1.tr j2, by rw [j3, z0], ?_⟩
      rw [z1, c35 mo (by omega)] at j4
      exact j4
    · intro y hy
      obtain ⟨-, r', p2, p3⟩ := i10 y hy (fun j hj => c35 j (by omega))
      rw [ps_cg z1] at p2
      refine ⟨r', by rw [ps0]; exact p2, ?_⟩
      rcases p3 with ⟨e1, j, hj, e2⟩ | ⟨e1, e2⟩
      · exact Or.inl ⟨e1, j, by omega, e2⟩
      · exact Or.inr ⟨e1, fun j hj => e2 j (by omega)⟩
/-- the frame of an address as it is now -/
theorem fr_whole {c m : Mm} (hT : RT c m) (hS : RS c m) {s a : Nat} (hs : s < 6) (ha : a < 512) : ∃ c' m' v, fX8_trace c (nI s) (nI a) = some (c', ()) ∧ fX9_frameNow m (nI s) (nI a) = some (m', v) ∧ Sc c c' ∧ Sm m m' ∧
  ((c' 34 2 = 0 ∧ ¬ v < 0 ∧ fX7_frameAt c' (nI a) = some v ∧ c' 34 3 = m' 0 18 ∧ fX9_rightsNow m' = some (c' 34 5) ∧ ∃ le x, le < 3 ∧ x < 96 ∧ c' 34 3 = nI le ∧ c' 35 le = nI x ∧ m' 0 17 = nI x) ∨ (¬ c' 34 2 = 0 ∧ v < 0 ∧ v = -2 - c' 34 2)) := by
  obtain ⟨c', t1, t2, -, ⟨m', r, w1, w2, -, w3⟩, -, -⟩ := tr_whole hT hS hs ha
  rcases w3 with ⟨e1, e2, le, x, h1, h2, h3, h4, h5, h6, h7, h8, h9⟩ | ⟨e1, e2⟩
  · have hm1 : m' 1 = m 1 := w2.1
    obtain ⟨u, hu, hu2⟩ : ∃ u, u < 1000 ∧ fX9_targetOf (m 1 x) = nI u := by
      rcases Vc.parts (hT x h2).2.2.1 with ⟨k, -⟩ | ⟨k, -⟩ | ⟨-, h, -⟩
      · rw [k] at h9; exact absurd h9 (by decide)
      · rw [k] at h9; exact absurd h9 (by decide)
      · exact h
    have hmod : a % 8 ^ le < 512 := Nat.lt_of_le_of_lt (Nat.mod_le _ _) ha
    have i17 : (0 : Int32) + m' 0 17 = nI x := by rw [h5, i0]
    refine ⟨c', m', nI (u + a % 8 ^ le), t1, ?_, t2, w2, Or.inl ⟨e2, nI_pos (by omega), ?_, by rw [h3, h4], ?_, le, x, by omega, h2, h4, h6, h5⟩⟩
    · unfold fX9_frameNow
      rw [w1, bw_eq, e1, if_pos (by decide), i17, h3, gd_nI (by omega) (by decide), nz_wide (by omega), nI_clamp (by omega), hm1, hu2, remw (by omega) ha, nI_add]
    · unfold fX7_frameAt
      rw [h7, h4, rest_eq le (by omega) a ha, hu2, nI_add]
    · unfold fX9_rightsNow
      rw [i17, gd_nI (by omega) (by decide), nI_clamp (by omega), hm1, h8]
  · refine ⟨c', m', -2 - r, t1, ?_, t2, w2, Or.inr ⟨?_, ?_, by rw [e2]⟩⟩
    · unfold fX9_frameNow
      rw [w1, bw_eq, if_neg (by rcases e1 with rfl | rfl | rfl <;> decide)]
    · rw [e2]; rcases e1 with rfl | rfl | rfl <;> decide
    · rcases e1 with rfl | rfl | rfl <;> decide
theorem st_way : St_way Rel := by
  intro n cap cm mm a1 a2 a3 hn hr
  have h0 : Rel n cap cm (wr mm 0 0 0) := hr.scr Sc.rf (Sm.wr0 (m := mm) 0 0 (by decide))
  unfold fX8_way fX9_way
  rw [wk_eq]
  generalize wr mm 0 0 0 = m0 at h0
  have hN := h0.mono
  rcases rng a1 6 (by decide) with h | ⟨s, hs, rfl⟩
  · obtain ⟨e1, e2⟩ := sp_out h
    simp only [e1, e2, eq_self, if_true]
    exact ⟨_, _, -1, rfl, rfl, hN⟩
  · obtain ⟨e1, e2⟩ := sp_in hs
    rcases rng a2 512 (by decide) with h | ⟨a, ha, rfl⟩
    · obtain ⟨f1, f2⟩ := ad_out h
      simp only [e1, e2, f1, f2, one_eq0, eq_self, if_true, if_false]
      exact ⟨_, _, -1, rfl, rfl, hN⟩
    · obtain ⟨f1, f2⟩ := ad_in ha
      obtain ⟨c', m', v, t1, t2, t3, t4, t5⟩ := fr_whole h0.1 h0.2.1 hs ha
      have hE : Rel (n + 1) cap c' m' := h0.next t3 t4
      have hEc : Rel (n + 1) cap c' m0 := h0.next t3 Sm.rf
      simp only [e1, e2, f1, f2, one_eq0, if_false, t1, t2, bw_eq]
      rcases in4 a3 with ⟨w, n0, n1, n2, n3, -⟩ | ⟨w, h, -⟩
      · refine ⟨c', m0, -1, ?_, ?_, hEc⟩
        · simp only [n0, n1, n2, n3, if_false]
          split <;> rfl
        · rw [w, if_pos rfl]
      · rw [w, if_neg one_ne]
        rcases t5 with ⟨k0, k1, k2, k3, k4, le, x, k5, k6, k7, k8, k9⟩ | ⟨k0, k1, k2⟩
        · have k1' : (0 : Int32) ≤ v := fa_of_nlt k1
          rcases h with rfl | rfl | rfl | rfl
          · exact ⟨c', m', v, by rw [if_pos rfl, if_pos k0, k2]; rfl, by rw [if_pos rfl], hE⟩
          · exact ⟨c', m', _, by rw [if_neg (by decide), if_pos k0, if_pos rfl], by rw [if_neg (by decide), if_pos k1', if_pos rfl, k3], hE⟩
          · exact ⟨c', m', _, by rw [if_neg (by decide), if_pos k0, if_neg (by decide), if_pos rfl], by rw [if_neg (by decide), if_pos k1', if_neg (by decide), if_pos rfl, k4]; rfl, hE⟩
          · have g := (hE.1 x k6).2.1
            refine ⟨c', m', m' 1 (96 + x), ?_, ?_, hE⟩
            · rw [if_neg (by decide), if_pos k0, if_neg (by decide), if_neg (by decide), if_pos rfl, k7, gd_nI k5 (by decide), nI_clamp (by omega), k8, gd_nI k6 (by decide), nI_clamp (by omega), g]
            · rw [if_neg (by decide), if_pos k1', if_neg (by decide), if_neg (by decide), k9, i96, gd_nI (by omega) (by decide), nI_clamp (by omega)]
        · have k1' : ¬ (0 : Int32) ≤ v := fun h => by
            rw [fa_le] at h
            rw [fa_lt] at k1
            omega
          rcases h with rfl | rfl | rfl | rfl
          · exact ⟨c', m', v, by rw [if_pos rfl, if_neg k0, k2], by rw [if_pos rfl], hE⟩
          · exact ⟨c', m', -1, by rw [if_neg (by decide), if_neg k0], by rw [if_neg (by decide), if_neg k1'], hE⟩
          · exact ⟨c', m', -1, by rw [if_neg (by decide), if_neg k0], by rw [if_neg (by decide), if_neg k1'], hE⟩
          · exact ⟨c', m', -1, by rw [if_neg (by decide), if_neg k0], by rw [if_neg (by decide), if_neg k1'], hE⟩
