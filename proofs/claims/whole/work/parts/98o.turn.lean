/-! PURE: turn -/
theorem core_end {n B cap : Nat} {c m c' m' : Mm} (hC : Core n B cap c m) (hB : B ≤ 16 * n + 16) (hn : n < 512) (hc : ∀ b, b ≠ 0 → b < 24 ∨ 37 ≤ b → c' b = c b) (hm : ∀ i, i < 276 ∨ i = 320 ∨ 326 ≤ i → m' 1 i = m 1 i) (h6 : m' 0 6 = m 0 6) (h7 : m' 0 7 = m 0 7) (h8 : m' 0 8 = m 0 8) (hb : ∀ b, 3 ≤ b → b ≤ 7 → m' b = m b) (hN : RN c' m') (hW : RW c' m') (hL : ∀ k, k < 4 → m' 1 (276 + 11 * k) = 1 → ∃ s, s < 6 ∧ m 1 (332 + s) = m' 1 (276 + 11 * k + 9)) : Rel (n + 1) cap c' m' := by
  obtain ⟨q1, q2, q3, q4, q5, q6, q8, q9, q10, q11⟩ := hC
  have E : ∀ lo hi, hi ≤ 276 ∨ 326 ≤ lo → Ea lo hi m m' := fun lo hi h i h1 h2 => hm i (by omega)
  have K := q4.ck0 (by omega) (hm 320 (by omega))
  refine Core.rel (n := n) (B := B) ⟨q1.cg (hc 1 (by decide) (by decide)) (hc 2 (by decide) (by decide)) (E _ _ (by omega)), q2.cg (by rw [hc 3 (by decide) (by decide)]) (hc 4 (by decide) (by decide)) (hc 5 (by decide) (by decide)) (E _ _ (by omega)) (hm 344 (by omega)), q3.cg (hc 3 (by decide) (by decide)) (hc 6 (by decide) (by decide)) K (E _ _ (by omega)),
    q4.cg (fun k hk => hc _ (by omega) (by omega)) (by rw [hc 7 (by decide) (by decide)]) K (E _ _ (by omega)), q5.cg (fun k hk => hc _ (by omega) (by omega)) (by rw [hc 15 (by decide) (by decide)]) K (E _ _ (by omega)),
    q6.cg (fun k hk => hc _ (by omega) (by omega)) (fun k hk => hc _ (by omega) (by omega)) (E _ _ (by omega)), hN,
    q9.cg (Nat.le_refl _) (by rw [hc 37 (by decide) (by decide)]) (hc 38 (by decide) (by decide)) (hc 39 (by decide) (by decide)) h6 h7 (hb 3 (by decide) (by decide)) (hb 4 (by decide) (by decide)) (hb 5 (by decide) (by decide)),
    q10.cg (Nat.le_refl _) (hc 40 (by decide) (by decide)) (hc 41 (by decide) (by decide)) (hc 42 (by decide) (by decide)) (hc 43 (by decide) (by decide)) h8 (hb 6 (by decide) (by decide)) (hb 7 (by decide) (by decide)), ⟨fun k hk h => ?_, fun k hk h => ?_, fun k hk h => ?_⟩⟩ hB hW
  · rw [hm _ (by omega)] at h ⊢
    obtain ⟨s, hs, es⟩ := q11.1 k hk h
    exact ⟨s, hs, by rw [hm _ (by omega)]; exact es⟩
  · rw [hm _ (by omega)] at h ⊢
    obtain ⟨s, hs, es⟩ := q11.2.1 k hk h
    exact ⟨s, hs, by rw [hm _ (by omega)]; exact es⟩
  · obtain ⟨s, hs, es⟩ := hL k hk h
    exact ⟨s, hs, by rw [hm _ (by omega)]; exact es⟩
theorem keeps_sp {m : Mm} {k : Nat} (hk : k < 4) : fX9_keeps m (nI k) = some (wr (wr (wr m 1 (276 + 11 * k + 6) (m 0 11)) 1 (276 + 11 * k + 7) (m 0 12)) 1 (276 + 11 * k + 8) (m 0 13), ()) := by
  unfold fX9_keeps
  simp (disch := omega) only [eq_self, l21, l12, l20, na0, Nat.reduceAdd, wk_eq, lk_eq, lkN_eq, bd_eq, bw_eq, gd_nI, nI_clamp, na1, na2, na3, na4, na5, na6, na7, na8, na9, i192, i234, i276, i326, i332, i338, i96, i0, i8, ge6F, ge6T, ge4F, ge4T, ltz, lez, Nat.one_mul, if_true, if_false, one_ne, one_eq0, zero_eq0, wr0_1, glit320, glit321, glit322, glit323, glit324, glit325, glit344, cl320, cl321, cl322, cl323, cl324, cl325, cl344]
  simp (disch := omega) only [wr_b]
theorem b189_sp {m : Mm} {A : Nat} {s : Int32} (hA : A + 11 ≤ 320) : fX9_turn_b189 m (nI A) (nI A) s = if m 0 16 ≤ 0 then some (wr (wr m 1 A s) 1 (A + 5) (m 0 15), s) else some (wr (wr m 1 A s) 1 (A + 5) (m 0 16), s) := by
  unfold fX9_turn_b189
  simp (disch := omega) only [eq_self, l21, l12, l20, na0, Nat.reduceAdd, wk_eq, lk_eq, lkN_eq, bd_eq, bw_eq, gd_nI, nI_clamp, na1, na2, na3, na4, na5, na6, na7, na8, na9, i192, i234, i276, i326, i332, i338, i96, i0, i8, ge6F, ge6T, ge4F, ge4T, ltz, lez, Nat.one_mul, if_true, if_false, one_ne, one_eq0, zero_eq0, wr0_1, glit320, glit321, glit322, glit323, glit324, glit325, glit344, cl320, cl321, cl322, cl323, cl324, cl325, cl344]
  simp (disch := omega) only [wr_b, wr_i, wr_same]
theorem w_cases {a : Int32} : (fX8_isWalker a = 0 ∧ fX9_within a 0 3 = 0) ∨ ∃ k, k < 4 ∧ a = nI k ∧ fX8_isWalker a = 1 ∧ fX9_within a 0 3 = 1 := by
  rcases rng a 4 (by decide) with h | ⟨k, hk, rfl⟩
  · left
    refine ⟨?_, within_out (N := 4) (by decide) (by decide) h⟩
    unfold fX8_isWalker
    by_cases h1 : a < 0
    · rw [if_pos h1]
    · rw [if_neg h1, if_pos (show (4 : Int32) ≤ a from h.resolve_left h1)]
  · right
    refine ⟨k, hk, rfl, ?_, within_in (N := 4) hk (by decide)⟩
    unfold fX8_isWalker
    rw [if_neg (nI_pos (by omega)), if_neg (show ¬ (4 : Int32) ≤ nI k from nI_ge hk (by decide))]
theorem add_subl (a d : Int32) : a + d - a = d := by rw [Int32.add_comm, Int32.add_sub_cancel]
/-- a turn's last writings -/
theorem turn_end {w l : Nat} {c m m10 : Mm} {res : Int32} {A : Nat} (hA : A + 11 ≤ 320) (e0 : m10 0 = m 0) (hO : Out w l c m res) : ∃ st told, (if res = 0 then if m10 0 16 ≤ 0 then fX9_turn_b189 m10 (nI A) (nI A) 2 else fX9_turn_b189 m10 (nI A) (nI A) 3 else fX9_turn_b189 m10 (nI A) (nI A) 1) = some (wr (wr m10 1 A st) 1 (A + 5) told, st) ∧ c w 0 = st ∧ Vk 5 st ∧ (st = 1 → 0 < l ∧ ∃ t r, t < 12 ∧ r < 8 ∧ c w 5 = nI (l - 1) ∧ m 0 11 = nI (l - 1) ∧ c w 6 = nI t ∧ m 0 12 = nI t ∧ c w 7 = nI r ∧ m 0 13 = nI r) ∧ (st = 2 ∨ st = 3 → c w 9 = told) := by
  rw [b189_sp hA, b189_sp hA, b189_sp hA, e0]
  rcases hO with ⟨rfl, hl, h1, h2, t, r, h3⟩ | ⟨rfl, h1, h2, h3, -⟩ | ⟨rfl, h1, h2, h3⟩
  · rw [if_neg one_ne, h2, if_pos (by decide)]
    exact ⟨1, _, rfl, h1, ⟨1, by decide, rfl⟩, fun _ => ⟨hl, t, r, h3⟩, fun h => absurd h (by decide)⟩
  · rw [if_pos rfl, h2, if_pos (by decide), if_pos (by decide)]
    exact ⟨2, _, rfl, h1, ⟨2, by decide, rfl⟩, fun h => absurd h (by decide), fun _ => h3⟩
  · have np : ¬ m 0 16 ≤ 0 := by rcases h2 with h | h | h <;> rw [h] <;> decide
    rw [if_pos rfl, if_neg np, if_neg np]
    exact ⟨3, _, rfl, h1, ⟨3, by decide, rfl⟩, fun h => absurd h (by decide), fun _ => h3⟩
theorem RW1.fr {j A : Nat} {c m c' m' : Mm} (h : RW1 j A c m) (hc : c' j = c j) (hm : ∀ i, i < 11 → m' 1 (A + i) = m 1 (A + i)) : RW1 j A c' m' := h.cg hc (fun i h1 h2 => by
  obtain ⟨z, rfl⟩ : ∃ z, i = A + z := ⟨i - A, by omega⟩
  exact hm z (by omega))
theorem st_turn : St_turn Rel := by
  intro n cap cm mm a1 hn hr
  have h0 : Rel n cap cm (wr mm 0 0 0) := hr.scr Sc.rf (Sm.wr0 (m := mm) 0 0 (by decide))
  unfold fX8_turn fX9_turn
  rw [wk_eq]
  generalize wr mm 0 0 0 = m0 at h0
  have hN := h0.mono
  rcases w_cases (a := a1) with ⟨e1, e2⟩ | ⟨k, hk, rfl, e1, e2⟩
  · simp only [e1, e2, eq_self, if_true]
    exact ⟨_, _, -1, rfl, rfl, hN⟩
  have q7 := h0.2.2.2.2.2.2.1
  have q11 := h0.2.2.2.2.2.2.2.2.2.2
  obtain ⟨w0, wv, w1, w2, w3, w4, w8, wg, wd2⟩ := q7 k hk
  have ig : fX9_isGoing m0 (nI k) = if m0 1 (276 + 11 * k) = 1 then some 1 else some 0 := by
    unfold fX9_isGoing
    simp (disch := omega) only [eq_self, l21, l12, l20, na0, Nat.reduceAdd, wk_eq, lk_eq, lkN_eq, bd_eq, bw_eq, gd_nI, nI_clamp, na1, na2, na3, na4, na5, na6, na7, na8, na9, i192, i234, i276, i326, i332, i338, i96, i0, i8, ge6F, ge6T, ge4F, ge4T, ltz, lez, Nat.one_mul, if_true, if_false, one_ne, one_eq0, zero_eq0, wr0_1, glit320, glit321, glit322, glit323, glit324, glit325, glit344, cl320, cl321, cl322, cl323, cl324, cl325, cl344]
  rw [e1, e2, if_neg one_ne, if_neg one_ne, ig, gd_nI hk (by decide), nI_clamp (by omega), lkN_eq, show 23 + 1 + 2 * k = 24 + 2 * k by omega, w0]
  by_cases g : m0 1 (276 + 11 * k) = 1

  · rw [if_pos g, if_pos g, bd_eq, if_neg one_ne, lk_eq]
    obtain ⟨g5, g6, g7, ⟨l, hl, v6⟩, ⟨t, ht, v7⟩, ⟨r, hrr, v8⟩, ⟨a, ha, v1⟩, ⟨wa, hwa, v2⟩, ⟨gu, hgu, v3⟩, ⟨tg, htg, v9⟩⟩ := wg g
    obtain ⟨x0, ex0⟩ : ∃ x0, cm (24 + 2 * k) 8 = x0 := ⟨_, rfl⟩
    simp (disch := omega) only [eq_self, l21, l12, l20, na0, Nat.reduceAdd, wk_eq, lk_eq, lkN_eq, bd_eq, bw_eq, gd_nI, nI_clamp, na1, na2, na3, na4, na5, na6, na7, na8, na9, i192, i234, i276, i326, i332, i338, i96, i0, i8, ge6F, ge6T, ge4F, ge4T, ltz, lez, Nat.one_mul, if_true, if_false, one_ne, one_eq0, zero_eq0, wr0_1, glit320, glit321, glit322, glit323, glit324, glit325, glit344, cl320, cl321, cl322, cl323, cl324, cl325, cl344, wr_b, v6, v7, v8, v9, v1, v2, v3]
    obtain ⟨m2, em2⟩ : ∃ m2, wr (wr (wr (wr (wr m0 0 11 (nI l)) 0 12 (nI t)) 0 13 (nI r)) 0 14 0) 0 16 0 = m2 := ⟨_, rfl⟩
    rw [em2, ex0]
    have s4 : (if nI gu = 1 then fX9_turn_b125 m2 (nI k) (nI (276 + 11 * k)) (nI tg) (nI a) (nI wa) 1 else fX9_turn_b125 m2 (nI k) (nI (276 + 11 * k)) (nI tg) (nI a) (nI wa) 0) = fX9_turn_b125 m2 (nI k) (nI (276 + 11 * k)) (nI tg) (nI a) (nI wa) (nI gu) := by
      rcases (show gu = 0 ∨ gu = 1 by omega) with rfl | rfl
      · rw [if_neg (by decide)]; rfl
      · rw [if_pos (by decide)]; rfl
    rw [s4]
    have b1 : ∀ b, b ≠ 0 → m2 b = m0 b := fun b hb => by
      rw [← em2, wr_ne _ _ _ hb, wr_ne _ _ _ hb, wr_ne _ _ _ hb, wr_ne _ _ _ hb, wr_ne _ _ _ hb]
    have b0 : ∀ i, i < 11 ∨ 17 ≤ i → m2 0 i = m0 0 i := fun i hi => by rw [← em2]; simp (disch := omega) only [wr_same, wr_i, wr_b]
    have C0 : Core n (16 * n) cap cm m2 := h0.core.cg (by omega) (h0.1.cg rfl rfl (Ea.of _ _ (b1 1 (by decide)))) (fun b _ _ => rfl) (fun i _ => by rw [b1 1 (by decide)]) (b0 6 (by decide)) (b0 7 (by decide)) (b0 8 (by decide)) (fun b h1 h2 => b1 b (by omega))
    obtain ⟨s, hs, es⟩ := q11.2.2 k hk g
    obtain ⟨c3, m3, res, r1, r2, ⟨d, d1, d2⟩, f1, f2, f3, f4, f5⟩ := read_step (w := 24 + 2 * k) (a := a) (wa := wa) (g := gu) (tg := tg) (l := l) (t := t) (r := r) C0 (by omega) (by omega) ⟨w0.trans g, w1.trans v1, w2.trans v2, w3.trans v3, w4.trans v9, g5.trans v6, g6.trans v7, g7.trans v8, by rw [← em2]; simp (disch := omega) only [wr_same, wr_i, wr_b], by rw [← em2]; simp (disch := omega) only [wr_same, wr_i, wr_b], by rw [← em2]; simp (disch := omega) only [wr_same, wr_i, wr_b], by rw [← em2]; simp (disch := omega) only [wr_same, wr_i, wr_b], ha, hwa, hgu, htg, hl, ht, hrr⟩ ⟨s, hs, by rw [b1 1 (by decide), es]; exact v9⟩
    have d3 : m2 0 14 = 0 := by rw [← em2]; simp (disch := omega) only [wr_same, wr_i, wr_b]
    rw [d3, Int32.zero_add] at d2
    rw [ex0] at d1
    unfold fX9_turn_b125
    rw [r1, bw_eq, r2, bw_eq, keeps_sp hk, bw_eq]
    obtain ⟨m4, em4⟩ : ∃ m4, wr (wr (wr m3 1 (276 + 11 * k + 6) (m3 0 11)) 1 (276 + 11 * k + 7) (m3 0 12)) 1 (276 + 11 * k + 8) (m3 0 13) = m4 := ⟨_, rfl⟩
    rw [em4, na4, gd_nI (by omega) (by decide), gd_nI (by omega) (by decide), wk_eq, nI_clamp (by omega), glit323, glit323, wk_eq, cl323]
    obtain ⟨m10, em10⟩ : ∃ m10, wr (wr m4 1 (276 + 11 * k + 4) (m4 1 (276 + 11 * k + 4) + m4 0 14)) 1 323 (wr m4 1 (276 + 11 * k + 4) (m4 1 (276 + 11 * k + 4) + m4 0 14) 1 323 + wr m4 1 (276 + 11 * k + 4) (m4 1 (276 + 11 * k + 4) + m4 0 14) 0 14) = m10 := ⟨_, rfl⟩
    rw [em10]
    have z1 : ∀ b, b ≠ 1 → m10 b = m3 b := fun b hb => by
      rw [← em10, ← em4, wr_ne _ _ _ hb, wr_ne _ _ _ hb, wr_ne _ _ _ hb, wr_ne _ _ _ hb, wr_ne _ _ _ hb]
    obtain ⟨st, told, u1, u2, u3, u4, u5⟩ := turn_end (A := 276 + 11 * k) (m10 := m10) (by omega) (z1 0 (by decide)) f5
    rw [u1]
    refine ⟨_, _, st, by rw [u2], rfl, ?_⟩
    have y0 : ∀ b, b ≠ 1 → wr (wr m10 1 (276 + 11 * k) st) 1 (276 + 11 * k + 5) told b = m3 b := fun b hb => by
      rw [wr_ne _ _ _ hb, wr_ne _ _ _ hb, z1 b hb]
    have y1 : ∀ i, i ≠ 276 + 11 * k → (i < 276 + 11 * k + 4 ∨ 276 + 11 * k + 8 < i) → i ≠ 323 → wr (wr m10 1 (276 + 11 * k) st) 1 (276 + 11 * k + 5) told 1 i = m3 1 i := fun i h1 h2 h3 => by
      rw [← em10, ← em4]
      simp (disch := omega) only [wr_same, wr_i, wr_b]
    have y4 : wr (wr m10 1 (276 + 11 * k) st) 1 (276 + 11 * k + 5) told 1 (276 + 11 * k + 4) = m3 1 (276 + 11 * k + 4) + m3 0 14 := by
      rw [← em10, ← em4]
      simp (disch := omega) only [wr_same, wr_i, wr_b]
    have y6 : wr (wr m10 1 (276 + 11 * k) st) 1 (276 + 11 * k + 5) told 1 (276 + 11 * k + 6) = m3 0 11 := by
      rw [← em10, ← em4]
      simp (disch := omega) only [wr_same, wr_i, wr_b]
    have y7 : wr (wr m10 1 (276 + 11 * k) st) 1 (276 + 11 * k + 5) told 1 (276 + 11 * k + 7) = m3 0 12 := by
      rw [← em10, ← em4]
      simp (disch := omega) only [wr_same, wr_i, wr_b]
    have y8 : wr (wr m10 1 (276 + 11 * k) st) 1 (276 + 11 * k + 5) told 1 (276 + 11 * k + 8) = m3 0 13 := by
      rw [← em10, ← em4]
      simp (disch := omega) only [wr_same, wr_i, wr_b]
    have yA : wr (wr m10 1 (276 + 11 * k) st) 1 (276 + 11 * k + 5) told 1 (276 + 11 * k) = st := by
      simp (disch := omega) only [wr_same, wr_i, wr_b]
    have y5 : wr (wr m10 1 (276 + 11 * k) st) 1 (276 + 11 * k + 5) told 1 (276 + 11 * k + 5) = told := by
      simp (disch := omega) only [wr_same, wr_i, wr_b]
    have y3 : wr (wr m10 1 (276 + 11 * k) st) 1 (276 + 11 * k + 5) told 1 323 = m3 1 323 + m3 0 14 := by
      rw [← em10, ← em4]
      simp (disch := omega) only [wr_same, wr_i, wr_b]
    generalize wr (wr m10 1 (276 + 11 * k) st) 1 (276 + 11 * k + 5) told = m' at y0 y1 y4 y6 y7 y8 yA y5 y3
    have mw : ∀ i, 276 ≤ i → i ≠ 320 → m3 1 i = m0 1 i := fun i h1 h2 => by rw [f3.2.1 i h1 h2, b1 1 (by decide)]
    refine core_end f1 (by omega) hn (fun b h1 h2 => wr_ne _ _ _ h1) (fun i hi => y1 i (by omega) (by omega) (by omega)) (by rw [y0 0 (by decide)]) (by rw [y0 0 (by decide)]) (by rw [y0 0 (by decide)]) (fun b h1 h2 => y0 b (by omega)) ?_ (fun j hj => ?_) (fun j hj h => ?_)
    · obtain ⟨n1, n2, n3, n4, n5⟩ := f1.2.2.2.2.2.2.1
      refine ⟨?_, ?_, ?_, ?_, ?_⟩
      · rw [wr_i _ _ _ (by decide), y1 _ (by omega) (by omega) (by omega)]; exact n1
      · rw [wr_i _ _ _ (by decide), y1 _ (by omega) (by omega) (by omega)]; exact n2
      · rw [wr_same, y3, d1, add_subl, d2, n3]
      · rw [wr_i _ _ _ (by decide), y1 _ (by omega) (by omega) (by omega)]; exact n4
      · rw [wr_i _ _ _ (by decide), y1 _ (by omega) (by omega) (by omega)]; exact n5
    · by_cases e : j = k
      · subst e
        unfold RW1
        rw [wr_ne _ _ _ (by omega), yA, y4, y5, y6, y7, y8, y1 _ (by omega) (by omega) (by omega), y1 _ (by omega) (by omega) (by omega), y1 _ (by omega) (by omega) (by omega), y1 _ (by omega) (by omega) (by omega), mw _ (by omega) (by omega), mw _ (by omega) (by omega), mw _ (by omega) (by omega), mw _ (by omega) (by omega), mw _ (by omega) (by omega), f4 1 (by decide) (by decide), f4 2 (by decide) (by decide), f4 3 (by decide) (by decide), f4 4 (by decide) (by decide), d1, d2, ← w8, ex0]
        refine ⟨u2, u3, w1, w2, w3, w4, rfl, fun h => ?_, u5⟩
        obtain ⟨hl0, t', r', ht', hr', x1, x2, x3, x4, x5, x6⟩ := u4 h
        rw [x1, x2, x3, x4, x5, x6]
        exact ⟨rfl, rfl, rfl, ⟨_, by omega, rfl⟩, ⟨_, ht', rfl⟩, ⟨_, hr', rfl⟩, ⟨_, ha, v1⟩, ⟨_, hwa, v2⟩, ⟨_, hgu, v3⟩, ⟨_, htg, v9⟩⟩
      · refine (q7 j hj).fr ?_ (fun i hi => ?_)
        · rw [wr_ne _ _ _ (by omega)]
          exact f2 _ (by omega) (by omega) (by omega) (by omega) (by omega) (by omega) (by omega)
        · rw [y1 _ (by omega) (by omega) (by omega), mw _ (by omega) (by omega)]
    · by_cases e : j = k
      · subst e
        exact ⟨s, hs, by rw [mw _ (by omega) (by omega), y1 _ (by omega) (by omega) (by omega), mw _ (by omega) (by omega)]; exact es⟩
      · rw [y1 _ (by omega) (by omega) (by omega), mw _ (by omega) (by omega)] at h
        obtain ⟨s2, hs2, es2⟩ := q11.2.2 j hj h
        exact ⟨s2, hs2, by rw [mw _ (by omega) (by omega), y1 _ (by omega) (by omega) (by omega), mw _ (by omega) (by omega)]; exact es2⟩
  · rw [if_neg g, if_neg g, bd_eq, if_pos rfl]
    exact ⟨_, _, -1, rfl, rfl, hN⟩
