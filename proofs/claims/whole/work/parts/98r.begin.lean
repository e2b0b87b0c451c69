/-! PURE: begin -/
theorem Core.wk {n B cap : Nat} {c m m' : Mm} (hC : Core n B cap c m) (hB : B < 2 ^ 30) (hm : ∀ i, i < 276 ∨ 320 ≤ i → m' 1 i = m 1 i) (h0 : m' 0 = m 0) (hb : ∀ b, 3 ≤ b → b ≤ 7 → m' b = m b) (hL : ∀ k, k < 4 → m' 1 (276 + 11 * k) = 1 → ∃ s, s < 6 ∧ m 1 (332 + s) = m' 1 (276 + 11 * k + 9)) : Core n B cap c m' := by
  obtain ⟨q1, q2, q3, q4, q5, q6, q8, q9, q10, q11⟩ := hC
  have E : ∀ lo hi, hi ≤ 276 ∨ 320 ≤ lo → Ea lo hi m m' := fun lo hi h i h1 h2 => hm i (by omega)
  have K := q4.ck0 hB (hm 320 (by omega))
  refine ⟨q1.cg rfl rfl (E _ _ (by omega)), q2.cg rfl rfl rfl (E _ _ (by omega)) (hm 344 (by omega)), q3.cg rfl rfl K (E _ _ (by omega)), q4.cg (fun k hk => rfl) rfl K (E _ _ (by omega)), q5.cg (fun k hk => rfl) rfl K (E _ _ (by omega)),
    q6.cg (fun k hk => rfl) (fun k hk => rfl) (E _ _ (by omega)), q8.cg rfl (E _ _ (by omega)),
    q9.cg (Nat.le_refl _) rfl rfl rfl (by rw [h0]) (by rw [h0]) (hb 3 (by decide) (by decide)) (hb 4 (by decide) (by decide)) (hb 5 (by decide) (by decide)),
    q10.cg (Nat.le_refl _) rfl rfl rfl rfl (by rw [h0]) (hb 6 (by decide) (by decide)) (hb 7 (by decide) (by decide)), ⟨fun k hk h => ?_, fun k hk h => ?_, fun k hk h => ?_⟩⟩
  · rw [hm _ (by omega)] at h ⊢
    obtain ⟨s, hs, es⟩ := q11.1 k hk h
    exact ⟨s, hs, by rw [hm _ (by omega)]; exact es⟩
  · rw [hm _ (by omega)] at h ⊢
    obtain ⟨s, hs, es⟩ := q11.2.1 k hk h
    exact ⟨s, hs, by rw [hm _ (by omega)]; exact es⟩
  · obtain ⟨s, hs, es⟩ := hL k hk h
    exact ⟨s, hs, by rw [hm _ (by omega)]; exact es⟩
theorem may_both {c m : Mm} {a1 a2 : Int32} (hS : RS c m) : (fX8_mayAccess c a1 a2 = some 0 ∧ fX9_canAsk m a1 a2 = some 0) ∨ ∃ a wa s tg, a < 512 ∧ wa < 8 ∧ s < 6 ∧ tg < 3 ∧ a1 = nI a ∧ a2 = nI wa ∧ m 1 344 = nI s ∧ m 1 (332 + s) = nI tg ∧ fX8_mayAccess c a1 a2 = some 1 ∧ fX9_canAsk m a1 a2 = some 1 := by
  unfold fX8_mayAccess fX9_canAsk
  rcases rng a1 512 (by decide) with h | ⟨a, ha, rfl⟩
  · obtain ⟨e1, e2⟩ := ad_out h
    rw [e1, e2, if_pos rfl, if_pos rfl]
    exact Or.inl ⟨rfl, rfl⟩
  obtain ⟨e1, e2⟩ := ad_in ha
  rw [e1, e2, if_neg one_ne, if_neg one_ne]
  rcases rng a2 8 (by decide) with h | ⟨wa, hwa, rfl⟩
  · rw [show fX9_within a2 0 7 = 0 from within_out (N := 8) (by decide) (by decide) h, if_pos rfl]
    left
    refine ⟨?_, rfl⟩
    by_cases h1 : a2 < 0
    · rw [if_pos h1]
    · rw [if_neg h1, if_pos]
      have h2 := h.resolve_left h1
      rw [fa_le, nI_toInt (by decide)] at h2
      rw [fa_lt]
      have e7 : (7 : Int32).toInt = 7 := by decide
      omega
  rw [show fX9_within (nI wa) 0 7 = 1 from within_in (N := 8) hwa (by decide), if_neg one_ne, if_neg (nI_pos (by omega)), if_neg (show ¬ (7 : Int32) < nI wa from nI_nlt (a := 7) (by omega) (by omega)), glit344, cl344]
  obtain ⟨S1, S2, S3, S4, S5⟩ := hS
  rw [S2]
  rcases S3 with e | ⟨s, hs, e⟩
  · rw [e, if_pos rfl, if_pos (by decide)]
    exact Or.inl ⟨rfl, rfl⟩
  · rcases (S1 s hs).2.2.2 with e3 | ⟨tg, htg, e3⟩
    · exact absurd e3 (S5 s hs e)
    · refine Or.inr ⟨a, wa, s, tg, ha, hwa, hs, htg, rfl, rfl, e, e3, ?_, ?_⟩
      · rw [e, if_neg (by rw [m1ne (by omega)]; exact id)]
      · rw [e, if_neg (nI_pos (by omega))]
theorem b157_sp {m : Mm} {A : Nat} {s : Int32} (hA : A + 11 ≤ 320) : fX9_begin_b157 m (nI A) (nI A) s = some (wr (wr m 1 A s) 1 (A + 5) (m 0 16), s) := by
  unfold fX9_begin_b157
  simp (disch := omega) only [eq_self, l21, l12, l20, na0, Nat.reduceAdd, wk_eq, lk_eq, lkN_eq, bd_eq, bw_eq, gd_nI, nI_clamp, na1, na2, na3, na4, na5, na6, na7, na8, na9, i192, i234, i276, i326, i332, i338, i96, i0, i8, ge6F, ge6T, ge4F, ge4T, ltz, lez, Nat.one_mul, if_true, if_false, one_ne, one_eq0, zero_eq0, wr0_1, glit320, glit321, glit322, glit323, glit324, glit325, glit344, cl320, cl321, cl322, cl323, cl324, cl325, cl344]
  simp (disch := omega) only [wr_b, wr_i, wr_same]
theorem st_begin : St_begin Rel := by
  intro n cap cm mm a1 a2 a3 a4 hn hr h4
  obtain ⟨g, hg, rfl⟩ : ∃ g, g < 2 ∧ a4 = nI g := by
    rcases h4 with rfl | rfl
    · exact ⟨0, by decide, rfl⟩
    · exact ⟨1, by decide, rfl⟩
  have h0 : Rel n cap cm (wr mm 0 0 0) := hr.scr Sc.rf (Sm.wr0 (m := mm) 0 0 (by decide))
  unfold fX8_begin fX9_begin
  rw [wk_eq]
  generalize wr mm 0 0 0 = m0 at h0
  have hN := h0.mono
  rcases w_cases (a := a1) with ⟨e1, e2⟩ | ⟨k, hk, rfl, e1, e2⟩
  · simp only [e1, e2, eq_self, if_true]
    exact ⟨_, _, -1, rfl, rfl, hN⟩
  rw [e1, e2, if_neg one_ne, if_neg one_ne]
  rcases may_both (a1 := a2) (a2 := a3) h0.2.1 with ⟨p1, p2⟩ | ⟨a, wa, s, tg, ha, hwa, hs, htg, rfl, rfl, hcur, het, p1, p2⟩
  · rw [p1, p2, bd_eq, bd_eq, if_pos rfl, if_pos rfl]
    exact ⟨_, _, -1, rfl, rfl, hN⟩
  rw [p1, p2, bd_eq, bd_eq, if_neg one_ne, if_neg one_ne]
  have q7 := h0.2.2.2.2.2.2.1
  have q11 := h0.2.2.2.2.2.2.2.2.2.2
  obtain ⟨w0, wv, w1, w2, w3, w4, w8, wg, wd2⟩ := q7 k hk
  have ig : fX9_isGoing m0 (nI k) = if m0 1 (276 + 11 * k) = 1 then some 1 else some 0 := by
    unfold fX9_isGoing
    simp (disch := omega) only [eq_self, l21, l12, l20, na0, Nat.reduceAdd, wk_eq, lk_eq, lkN_eq, bd_eq, bw_eq, gd_nI, nI_clamp, na1, na2, na3, na4, na5, na6, na7, na8, na9, i192, i234, i276, i326, i332, i338, i96, i0, i8, ge6F, ge6T, ge4F, ge4T, ltz, lez, Nat.one_mul, if_true, if_false, one_ne, one_eq0, zero_eq0, wr0_1, glit320, glit321, glit322, glit323, glit324, glit325, glit344, cl320, cl321, cl322, cl323, cl324, cl325, cl344]
  rw [ig, gd_nI hk (by decide), nI_clamp (by omega), lkN_eq, show 23 + 1 + 2 * k = 24 + 2 * k by omega, w0]
  by_cases go : m0 1 (276 + 11 * k) = 1
  · rw [if_pos go, if_pos go, bd_eq, if_neg one_ne]
    exact ⟨_, _, -1, rfl, rfl, hN⟩
  rw [if_neg go, if_neg go, bd_eq, if_pos rfl, i276, lk_eq, na1, gd_nI (by omega) (by decide), wk_eq, nI_clamp (by omega), na2, gd_nI (by omega) (by decide), wk_eq, nI_clamp (by omega), na3]
  obtain ⟨m2, em2⟩ : ∃ m2, wr (wr m0 1 (276 + 11 * k + 1) (nI a)) 1 (276 + 11 * k + 2) (nI wa) = m2 := ⟨_, rfl⟩
  rw [em2]
  have s4 : (if nI g = 0 then fX9_begin_b81 m2 (nI k) (nI a) (nI (276 + 11 * k)) (nI (276 + 11 * k + 3)) 0 else fX9_begin_b81 m2 (nI k) (nI a) (nI (276 + 11 * k)) (nI (276 + 11 * k + 3)) 1) = fX9_begin_b81 m2 (nI k) (nI a) (nI (276 + 11 * k)) (nI (276 + 11 * k + 3)) (nI g) := by
    rcases (show g = 0 ∨ g = 1 by omega) with rfl | rfl
    · rw [if_pos (by decide)]; rfl
    · rw [if_neg (by decide)]; rfl
  rw [s4]
  unfold fX9_begin_b81
  have e44 : wr (wr m2 1 (276 + 11 * k + 3) (nI g)) 1 (276 + 11 * k + 4) 0 1 344 = nI s := by
    rw [← em2, ← hcur]; simp (disch := omega) only [wr_same, wr_i, wr_b]
  have e32 : wr (wr m2 1 (276 + 11 * k + 3) (nI g)) 1 (276 + 11 * k + 4) 0 1 (332 + s) = nI tg := by
    rw [← em2, ← het]; simp (disch := omega) only [wr_same, wr_i, wr_b]
  rw [gd_nI (by omega) (by decide), wk_eq, nI_clamp (by omega), na4, gd_nI (by omega) (by decide), wk_eq, nI_clamp (by omega), glit344, cl344, e44, i332, gd_nI (by omega) (by decide), na9, gd_nI (by omega) (by decide), wk_eq, nI_clamp (by omega), nI_clamp (by omega), e32, gd_nI (by omega) (by decide), wr_same]
  obtain ⟨m8, em8⟩ : ∃ m8, wr (wr (wr m2 1 (276 + 11 * k + 3) (nI g)) 1 (276 + 11 * k + 4) 0) 1 (276 + 11 * k + 9) (nI tg) = m8 := ⟨_, rfl⟩
  rw [em8]
  have x0 : ∀ b, b ≠ 1 → m8 b = m0 b := fun b hb => by
    rw [← em8, ← em2, wr_ne _ _ _ hb, wr_ne _ _ _ hb, wr_ne _ _ _ hb, wr_ne _ _ _ hb, wr_ne _ _ _ hb]
  have x1 : ∀ i, i < 276 + 11 * k + 1 ∨ 276 + 11 * k + 10 ≤ i → m8 1 i = m0 1 i := fun i hi => by
    rw [← em8, ← em2]; simp (disch := omega) only [wr_same, wr_i, wr_b]
  have xa : m8 1 (276 + 11 * k + 1) = nI a := by rw [← em8, ← em2]; simp (disch := omega) only [wr_same, wr_i, wr_b]
  have xw : m8 1 (276 + 11 * k + 2) = nI wa := by rw [← em8, ← em2]; simp (disch := omega) only [wr_same, wr_i, wr_b]
  have xg : m8 1 (276 + 11 * k + 3) = nI g := by rw [← em8, ← em2]; simp (disch := omega) only [wr_same, wr_i, wr_b]
  have x4 : m8 1 (276 + 11 * k + 4) = 0 := by rw [← em8, ← em2]; simp (disch := omega) only [wr_same, wr_i, wr_b]
  have x9 : m8 1 (276 + 11 * k + 9) = nI tg := by rw [← em8]; simp (disch := omega) only [wr_same, wr_i, wr_b]
  have C8 : Core n (16 * n) cap cm m8 := by
    refine h0.core.wk (by omega) (fun i hi => x1 i (by omega)) (x0 0 (by decide)) (fun b h1 h2 => x0 b (by omega)) (fun j hj h => ?_)
    by_cases e : j = k
    · subst e
      rw [x1 _ (by omega)] at h
      exact absurd h go
    · rw [x1 _ (by omega)] at h
      rw [x1 _ (by omega)]
      exact q11.2.2 j hj h
  obtain ⟨c', m9, t1, t2, t3, t4, t5, y1, y2, y3, y4, y8, yB⟩ := start_both (w := 24 + 2 * k) (wa := wa) C8 (by omega) (by omega) ha hg htg hs (by rw [x1 _ (by omega)]; exact hcur) (by rw [x1 _ (by omega)]; exact het)
  rw [t1, bw_eq, t2, bw_eq, keeps_sp hk, bw_eq]
  obtain ⟨m10, em10⟩ : ∃ m10, wr (wr (wr m9 1 (276 + 11 * k + 6) (m9 0 11)) 1 (276 + 11 * k + 7) (m9 0 12)) 1 (276 + 11 * k + 8) (m9 0 13) = m10 := ⟨_, rfl⟩
  rw [em10, b157_sp (by omega), b157_sp (by omega)]
  have z1 : ∀ b, b ≠ 1 → m10 b = m9 b := fun b hb => by
    rw [← em10, wr_ne _ _ _ hb, wr_ne _ _ _ hb, wr_ne _ _ _ hb]
  obtain ⟨st, u1, u2, u3, u4, u5⟩ : ∃ st : Int32, (if m10 0 16 ≤ 0 then some (wr (wr m10 1 (276 + 11 * k) 1) 1 (276 + 11 * k + 5) (m10 0 16), (1 : Int32)) else some (wr (wr m10 1 (276 + 11 * k) 3) 1 (276 + 11 * k + 5) (m10 0 16), 3)) = some (wr (wr m10 1 (276 + 11 * k) st) 1 (276 + 11 * k + 5) (m9 0 16), st) ∧ c' (24 + 2 * k) 0 = st ∧ Vk 5 st ∧ (st = 1 → ∃ l t r, l < 3 ∧ t < 12 ∧ r < 8 ∧ c' (24 + 2 * k) 5 = nI l ∧ c' (24 + 2 * k) 6 = nI t ∧ c' (24 + 2 * k) 7 = nI r ∧ m9 0 11 = nI l ∧ m9 0 12 = nI t ∧ m9 0 13 = nI r) ∧ (st = 2 ∨ st = 3 → c' (24 + 2 * k) 9 = m9 0 16) := by
    rw [z1 0 (by decide)]
    rcases yB with ⟨b0, b1, b2⟩ | ⟨b0, b1, b2⟩
    · exact ⟨1, by rw [b1, if_pos (by decide)], b0, ⟨1, by decide, rfl⟩, fun _ => b2, fun h => absurd h (by decide)⟩
    · exact ⟨3, by rw [b2, if_neg (by decide)], b0, ⟨3, by decide, rfl⟩, fun h => absurd h (by decide), fun _ => by rw [b1, b2]⟩
  rw [u1]
  refine ⟨_, _, st, by rw [u2], rfl, ?_⟩
  have v0 : ∀ b, b ≠ 1 → wr (wr m10 1 (276 + 11 * k) st) 1 (276 + 11 * k + 5) (m9 0 16) b = m9 b := fun b hb => by
    rw [wr_ne _ _ _ hb, wr_ne _ _ _ hb, z1 b hb]
  have v1 : ∀ i, i ≠ 276 + 11 * k → (i < 276 + 11 * k + 5 ∨ 276 + 11 * k + 8 < i) → wr (wr m10 1 (276 + 11 * k) st) 1 (276 + 11 * k + 5) (m9 0 16) 1 i = m9 1 i := fun i h1 h2 => by
    rw [← em10]; simp (disch := omega) only [wr_same, wr_i, wr_b]
  have v6 : wr (wr m10 1 (276 + 11 * k) st) 1 (276 + 11 * k + 5) (m9 0 16) 1 (276 + 11 * k + 6) = m9 0 11 := by rw [← em10]; simp (disch := omega) only [wr_same, wr_i, wr_b]
  have v7 : wr (wr m10 1 (276 + 11 * k) st) 1 (276 + 11 * k + 5) (m9 0 16) 1 (276 + 11 * k + 7) = m9 0 12 := by rw [← em10]; simp (disch := omega) only [wr_same, wr_i, wr_b]
  have v8 : wr (wr m10 1 (276 + 11 * k) st) 1 (276 + 11 * k + 5) (m9 0 16) 1 (276 + 11 * k + 8) = m9 0 13 := by rw [← em10]; simp (disch := omega) only [wr_same, wr_i, wr_b]
  have vA : wr (wr m10 1 (276 + 11 * k) st) 1 (276 + 11 * k + 5) (m9 0 16) 1 (276 + 11 * k) = st := by simp (disch := omega) only [wr_same, wr_i, wr_b]
  have v5 : wr (wr m10 1 (276 + 11 * k) st) 1 (276 + 11 * k + 5) (m9 0 16) 1 (276 + 11 * k + 5) = m9 0 16 := by simp (disch := omega) only [wr_same, wr_i, wr_b]
  generalize wr (wr m10 1 (276 + 11 * k) st) 1 (276 + 11 * k + 5) (m9 0 16) = m' at v0 v1 v6 v7 v8 vA v5
  have mw : ∀ i, 276 ≤ i → i ≠ 320 → i ≠ 324 → m9 1 i = m8 1 i := fun i h1 h2 h3 => t5.2.1 i h1 h2 h3
  refine core_end t3 (by omega) hn (fun b h1 h2 => rfl) (fun i hi => v1 i (by omega) (by omega)) (by rw [v0 0 (by decide)]) (by rw [v0 0 (by decide)]) (by rw [v0 0 (by decide)]) (fun b h1 h2 => v0 b (by omega)) ?_ (fun j hj => ?_) (fun j hj h => ?_)
  · obtain ⟨n1, n2, n3, n4, n5⟩ := t3.2.2.2.2.2.2.1
    refine ⟨?_, ?_, ?_, ?_, ?_⟩
    · rw [v1 _ (by omega) (by omega)]; exact n1
    · rw [v1 _ (by omega) (by omega)]; exact n2
    · rw [v1 _ (by omega) (by omega)]; exact n3
    · rw [v1 _ (by omega) (by omega)]; exact n4
    · rw [v1 _ (by omega) (by omega)]; exact n5
  · by_cases e : j = k
    · subst e
      unfold RW1
      rw [vA, v5, v6, v7, v8, v1 _ (by omega) (by omega), v1 _ (by omega) (by omega), v1 _ (by omega) (by omega), v1 _ (by omega) (by omega), v1 _ (by omega) (by omega), mw _ (by omega) (by omega) (by omega), mw _ (by omega) (by omega) (by omega), mw _ (by omega) (by omega) (by omega), mw _ (by omega) (by omega) (by omega), mw _ (by omega) (by omega) (by omega), xa, xw, xg, x4, x9]
      refine ⟨u2, u3, y1, y2, y3, y4, y8, fun h => ?_, u5⟩
      obtain ⟨l, t, r, hl, ht, hr, l1, l2, l3, l4, l5, l6⟩ := u4 h
      rw [l1, l2, l3, l4, l5, l6]
      exact ⟨rfl, rfl, rfl, ⟨_, hl, rfl⟩, ⟨_, ht, rfl⟩, ⟨_, hr, rfl⟩, ⟨_, ha, rfl⟩, ⟨_, hwa, rfl⟩, ⟨_, hg, rfl⟩, ⟨_, htg, rfl⟩⟩
    · refine (q7 j hj).fr ?_ (fun i hi => ?_)
      · exact t4 _ (by omega) (by omega) (by omega) (by omega) (by omega)
      · rw [v1 _ (by omega) (by omega), mw _ (by omega) (by omega) (by omega), x1 _ (by omega)]
  · by_cases e : j = k
    · subst e
      exact ⟨s, hs, by rw [mw _ (by omega) (by omega) (by omega), v1 _ (by omega) (by omega), mw _ (by omega) (by omega) (by omega), x9, x1 _ (by omega)]; exact het⟩
    · rw [v1 _ (by omega) (by omega), mw _ (by omega) (by omega) (by omega), x1 _ (by omega)] at h
      obtain ⟨s2, hs2, es2⟩ := q11.2.2 j hj h
      exact ⟨s2, hs2, by rw [mw _ (by omega) (by omega) (by omega), x1 _ (by omega), v1 _ (by omega) (by omega), mw _ (by omega) (by omega) (by omega), x1 _ (by omega)]; exact es2⟩
