/-! PURE: access -/
def Done (w : Nat) (c m : Mm) : Prop := (c w 0 = 2 ∧ m 0 16 = 0 ∧ c w 9 = m 0 15 ∧ Vk 1100 (m 0 15)) ∨ (c w 0 = 3 ∧ (m 0 16 = 1 ∨ m 0 16 = 2 ∨ m 0 16 = 3 ∨ m 0 16 = 4) ∧ c w 9 = m 0 16)
theorem fw_end {f i : Nat} {c : Mm} {x : Int32} (hi : i < 1000) (h : ¬ c 32 0 = 1) : fX8_finishWalk_b2 (f + 1) c 32 x (nI i) = some (c, ()) := by
  have L : fX8_finishWalk_b2 (f + 1) c 32 x (nI i) = fX8_finishWalk_b2_s (fX8_finishWalk_b2 f) c 32 x (nI i) := rfl
  rw [L]
  unfold fX8_finishWalk_b2_s
  rw [if_neg h]
  split <;> rfl
theorem as_end {f : Nat} {m : Mm} {a wa tg : Int32} : fX9_asks_b154 (f + 1) m a wa tg 0 = fX9_asks_b154_s (fun _ _ _ _ _ => none) m a wa tg 0 := by
  have L : fX9_asks_b154 (f + 1) m a wa tg 0 = fX9_asks_b154_s (fX9_asks_b154 f) m a wa tg 0 := rfl
  rw [L]
  unfold fX9_asks_b154_s
  rw [if_pos rfl, if_pos rfl]
theorem finish_both {n cap a wa tg : Nat} : ∀ l B i fu fu2 t r (c m : Mm), Core n B cap c m → B + l + 1 < 2 ^ 30 → WS 32 a wa 0 tg l t r c m → (∃ s, s < 6 ∧ m 1 (332 + s) = nI tg) → i + l < 3 → l + 1 < fu → l + 1 < fu2 → ∃ c' m', fX8_finishWalk_b2 fu c 32 1 (nI i) = some (c', ()) ∧ fX9_asks_b154 fu2 m (nI a) (nI wa) (nI tg) 1 = fX9_asks_b154_s (fun _ _ _ _ _ => none) m' (nI a) (nI wa) (nI tg) 0 ∧ Core n (B + l + 1) cap c' m' ∧ FrC 32 c c' ∧ FrM m m' ∧ (∃ d, c' 32 8 = c 32 8 + d ∧ m' 0 14 = m 0 14 + d) ∧ Done 32 c' m' := by
  intro l
  induction l with
  | zero =>
    intro B i fu fu2 t r c m hC hB hW held hi hf hf2
    obtain ⟨f, rfl⟩ : ∃ f, fu = f + 1 + 1 := ⟨fu - 2, by omega⟩
    obtain ⟨f2, rfl⟩ : ∃ f2, fu2 = f2 + 1 + 1 := ⟨fu2 - 2, by omega⟩
    obtain ⟨c1, m1, res, r1, r2, r3, z1, z2, z3, z4, z5⟩ := read_step (w := 32) hC (by omega) (by decide) hW held
    have L : fX8_finishWalk_b2 (f + 1 + 1) c 32 1 (nI i) = fX8_finishWalk_b2_s (fX8_finishWalk_b2 (f + 1)) c 32 1 (nI i) := rfl
    have L2 : fX9_asks_b154 (f2 + 1 + 1) m (nI a) (nI wa) (nI tg) 1 = fX9_asks_b154_s (fX9_asks_b154 (f2 + 1)) m (nI a) (nI wa) (nI tg) 1 := rfl
    rw [L, L2]
    unfold fX8_finishWalk_b2_s
    have e : fX9_asks_b154_s (fX9_asks_b154 (f2 + 1)) m (nI a) (nI wa) (nI tg) 1 = fX9_asks_b154 (f2 + 1) m1 (nI a) (nI wa) (nI tg) res := by
      unfold fX9_asks_b154_s
      rw [if_neg one_ne, show (0 : Int32) = nI 0 from rfl, r2, bw_eq]
    rw [if_neg (show ¬ (3 : Int32) ≤ nI i from nI_ge (b := 3) (by omega) (by decide)), if_pos hW.1, r1, bw_eq, na1, e]
    rcases z5 with ⟨-, h, -⟩ | ⟨rfl, h1, h2, h3, h4⟩ | ⟨rfl, h1, h2, h3⟩
    · exact absurd h (Nat.lt_irrefl 0)
    · rw [fw_end (by omega) (by rw [h1]; decide), as_end]
      exact ⟨_, _, rfl, rfl, z1, z2, z3, r3, Or.inl ⟨h1, h2, h3, h4⟩⟩
    · rw [fw_end (by omega) (by rw [h1]; decide), as_end]
      exact ⟨_, _, rfl, rfl, z1, z2, z3, r3, Or.inr ⟨h1, Or.inr h2, h3⟩⟩
  | succ l ih =>
    intro B i fu fu2 t r c m hC hB hW held hi hf hf2
    obtain ⟨f, rfl⟩ : ∃ f, fu = f + 1 + 1 := ⟨fu - 2, by omega⟩
    obtain ⟨f2, rfl⟩ : ∃ f2, fu2 = f2 + 1 + 1 := ⟨fu2 - 2, by omega⟩
    obtain ⟨c1, m1, res, r1, r2, ⟨d, d1, d2⟩, z1, z2, z3, z4, z5⟩ := read_step (w := 32) hC (by omega) (by decide) hW held
    have L : fX8_finishWalk_b2 (f + 1 + 1) c 32 1 (nI i) = fX8_finishWalk_b2_s (fX8_finishWalk_b2 (f + 1)) c 32 1 (nI i) := rfl
    have L2 : fX9_asks_b154 (f2 + 1 + 1) m (nI a) (nI wa) (nI tg) 1 = fX9_asks_b154_s (fX9_asks_b154 (f2 + 1)) m (nI a) (nI wa) (nI tg) 1 := rfl
    rw [L, L2]
    unfold fX8_finishWalk_b2_s
    have e : fX9_asks_b154_s (fX9_asks_b154 (f2 + 1)) m (nI a) (nI wa) (nI tg) 1 = fX9_asks_b154 (f2 + 1) m1 (nI a) (nI wa) (nI tg) res := by
      unfold fX9_asks_b154_s
      rw [if_neg one_ne, show (0 : Int32) = nI 0 from rfl, r2, bw_eq]
    rw [if_neg (show ¬ (3 : Int32) ≤ nI i from nI_ge (b := 3) (by omega) (by decide)), if_pos hW.1, r1, bw_eq, na1, e]
    rcases z5 with ⟨rfl, -, h1, h2, t', r', ht', hr', h3, h4, h5, h6, h7, h8⟩ | ⟨rfl, h1, h2, h3, h4⟩ | ⟨rfl, h1, h2, h3⟩
    · obtain ⟨-, w1, w2, w3, w4, -, -, -, -, -, -, -, ha, hwa, hg, htg, hl, -, -⟩ := hW
      obtain ⟨c2, m2, y1, y2, y3, y4, y5, ⟨d', y6, y7⟩, y8⟩ := ih (B + 1) (i + 1) (f + 1) (f2 + 1) t' r' c1 m1 z1 (by omega) ⟨h1, by rw [z4 1 (by decide) (by decide)]; exact w1, by rw [z4 2 (by decide) (by decide)]; exact w2, by rw [z4 3 (by decide) (by decide)]; exact w3, by rw [z4 4 (by decide) (by decide)]; exact w4, h3, h5, h7, h4, h6, h8, h2, ha, hwa, hg, htg, by omega, ht', hr'⟩ (by
        obtain ⟨s, hs, es⟩ := held
        exact ⟨s, hs, by rw [z3.2.1 _ (by omega) (by omega)]; exact es⟩) (by omega) (by omega) (by omega)
      rw [y1, y2]
      refine ⟨c2, m2, rfl, rfl, y3.le (by omega), z2.tr y4, z3.tr y5, ⟨d + d', ?_, ?_⟩, y8⟩
      · rw [y6, d1]; exact Int32.add_assoc _ _ _
      · rw [y7, d2]; exact Int32.add_assoc _ _ _
    · rw [fw_end (by omega) (by rw [h1]; decide), as_end]
      exact ⟨_, _, rfl, rfl, z1.le (by omega), z2, z3, ⟨d, d1, d2⟩, Or.inl ⟨h1, h2, h3, h4⟩⟩
    · rw [fw_end (by omega) (by rw [h1]; decide), as_end]
      exact ⟨_, _, rfl, rfl, z1.le (by omega), z2, z3, ⟨d, d1, d2⟩, Or.inr ⟨h1, Or.inr h2, h3⟩⟩
/-- the reference's last lines of an access -/
theorem as_val {m : Mm} {a wa tg : Int32} : fX9_asks_b154_s (fun _ _ _ _ _ => none) m a wa tg 0 = some (wr (wr m 1 323 (m 1 323 + m 0 14)) 1 325 (m 1 325 + (if m 0 16 ≤ 0 then 0 else 1)), if m 0 16 ≤ 0 then m 0 15 else -2 - m 0 16) := by
  unfold fX9_asks_b154_s fX9_asks_b208
  rw [if_pos rfl]
  simp (disch := omega) only [eq_self, l21, l12, l20, na0, Nat.reduceAdd, wk_eq, lk_eq, lkN_eq, bd_eq, bw_eq, gd_nI, nI_clamp, na1, na2, na3, na4, na5, na6, na7, na8, na9, i192, i234, i276, i326, i332, i338, i96, i0, i8, ge6F, ge6T, ge4F, ge4T, ltz, lez, Nat.one_mul, if_true, if_false, one_ne, one_eq0, zero_eq0, wr0_1, glit320, glit321, glit322, glit323, glit324, glit325, glit344, cl320, cl321, cl322, cl323, cl324, cl325, cl344]
  simp (disch := omega) only [wr_b, wr_i]
  by_cases h : m 0 16 ≤ 0
  · simp only [h, if_true]
  · simp only [h, if_false]
theorem st_access : St_access Rel := by
  intro n cap cm mm a1 a2 hn hr
  have h0 : Rel n cap cm (wr mm 0 0 0) := hr.scr Sc.rf (Sm.wr0 (m := mm) 0 0 (by decide))
  unfold fX9_access
  rw [wk_eq]
  generalize wr mm 0 0 0 = m0 at h0
  unfold fX8_access
  have hN := h0.mono
  rcases may_both (a1 := a1) (a2 := a2) h0.2.1 with ⟨p1, p2⟩ | ⟨a, wa, s, tg, ha, hwa, hs, htg, rfl, rfl, hcur, het, p1, p2⟩
  · rw [p1, p2, bd_eq, bd_eq, if_pos rfl, if_pos rfl]
    exact ⟨_, _, -1, rfl, rfl, hN⟩
  rw [p1, p2, bd_eq, bd_eq, if_neg one_ne, if_neg one_ne, wk_eq]
  unfold fX9_asks
  rw [wk_eq, glit321, glit321, wk_eq, cl321]
  have q7 := h0.2.2.2.2.2.2.1
  have q11 := h0.2.2.2.2.2.2.2.2.2.2
  obtain ⟨n1, n2, n3, n4, n5⟩ := h0.2.2.2.2.2.2.2.1
  obtain ⟨S1, S2, -⟩ := h0.2.1
  obtain ⟨c3, ec3⟩ : ∃ c3, wr cm 0 11 (cm 0 11 + 1) = c3 := ⟨_, rfl⟩
  obtain ⟨m4, em4⟩ : ∃ m4, wr (wr m0 0 14 0) 1 321 (wr m0 0 14 0 1 321 + 1) = m4 := ⟨_, rfl⟩
  rw [ec3, em4]
  have cb : ∀ b, b ≠ 0 → c3 b = cm b := fun b hb => by rw [← ec3, wr_ne _ _ _ hb]
  have m1 : ∀ i, i ≠ 321 → m4 1 i = m0 1 i := fun i hi => by rw [← em4]; simp (disch := omega) only [wr_same, wr_i, wr_b]
  have m14 : m4 0 14 = 0 := by rw [← em4]; simp (disch := omega) only [wr_same, wr_i, wr_b]
  have mz : ∀ b, 2 ≤ b → m4 b = m0 b := fun b hb => by rw [← em4, wr_ne _ _ _ (by omega), wr_ne _ _ _ (by omega)]
  have m00 : ∀ i, i ≠ 14 → m4 0 i = m0 0 i := fun i hi => by rw [← em4]; simp (disch := omega) only [wr_same, wr_i, wr_b]
  have C3 : Core n (16 * n) cap c3 m4 := h0.core.rn (by omega) cb (fun i hi => m1 i (by omega)) (m00 6 (by decide)) (m00 7 (by decide)) (m00 8 (by decide)) (fun b h1 h2 => mz b (by omega)) ⟨by rw [← ec3, ← em4, wr_same, wr_same, wr_b _ _ _ _ (by decide), n1], by rw [← ec3, wr_i _ _ _ (by decide), m1 _ (by decide)]; exact n2, by rw [← ec3, wr_i _ _ _ (by decide), m1 _ (by decide)]; exact n3, by rw [← ec3, wr_i _ _ _ (by decide), m1 _ (by decide)]; exact n4, by rw [← ec3, wr_i _ _ _ (by decide), m1 _ (by decide)]; exact n5⟩
  have hcur4 : m4 1 344 = nI s := (m1 _ (by decide)).trans hcur
  have het4 : m4 1 (332 + s) = nI tg := (m1 _ (by omega)).trans het
  have fin : ∀ (B : Nat) (c' m' : Mm), B ≤ 16 * n + 16 → Core n B cap c' m' → (∀ b, 24 ≤ b → b < 32 → c' b = cm b) → (∀ i, 276 ≤ i → i < 320 → m' 1 i = m0 1 i) → (∀ i, 332 ≤ i → m' 1 i = m0 1 i) → Rel (n + 1) cap c' m' := fun B c' m' hB hC hc hm hm2 => by
    refine core_end hC hB hn (fun b _ _ => rfl) (fun i _ => rfl) rfl rfl rfl (fun b _ _ => rfl) hC.2.2.2.2.2.2.1 (fun j hj => (q7 j hj).fr (hc _ (by omega) (by omega)) (fun i hi => hm _ (by omega) (by omega))) (fun j hj h => ?_)
    rw [hm _ (by omega) (by omega)] at h ⊢
    obtain ⟨s2, hs2, es2⟩ := q11.2.2 j hj h
    exact ⟨s2, hs2, by rw [hm2 _ (by omega)]; exact es2⟩
  rcases hit_both (n := n) (wa := wa) (c := c3) (m := m4) C3.2.2.2.1 hn ha hs (by rw [cb 3 (by decide)]; exact S2.trans hcur) (by rw [cb 5 (by decide)]; exact (S1 s hs).2.1.trans het) hcur4 het4 with ⟨F, l1, l2, l3⟩ | ⟨k, P, hk, fk, pk, l1, l2, l3⟩
  · rw [l1, bd_eq, oc_none, l2, bw_eq, l3]
    have C7 := C3.drop F hn
    have e44 : dM 192 F 6 m4 1 344 = nI s := by rw [dM_out (by omega)]; exact hcur4
    have e32 : dM 192 F 6 m4 1 (332 + s) = nI tg := by rw [dM_out (by omega)]; exact het4
    obtain ⟨c9, m6, t1, t2, t3, t4, t5, y1, y2, y3, y4, y8, yB⟩ := start_both (w := 32) (wa := wa) (g := 0) C7 (by omega) (by decide) ha (by decide) htg hs e44 e32
    rw [show (0 : Int32) = nI 0 from rfl, t1, bw_eq]
    have eb : fX9_asks_b23_s (fun _ _ _ _ => none) (dM 192 F 6 m4) (nI a) (nI wa) (-1) = (if m6 0 16 = 0 then fX9_asks_b154 2000 m6 (nI a) (nI wa) (nI tg) 1 else fX9_asks_b154 2000 m6 (nI a) (nI wa) (nI tg) 0) := by
      unfold fX9_asks_b23_s
      rw [if_pos (by decide), glit344, cl344, e44, i332, gd_nI (by omega) (by decide), nI_clamp (by omega), e32, lk_eq, t2, bw_eq]
    rw [eb]
    -- the walk
    obtain ⟨c11, m8, v1, v2, v3, v4, v5, v6, v7⟩ : ∃ c11 m8, fX8_finishWalk c9 32 1 = some (c11, ()) ∧ (if m6 0 16 = 0 then fX9_asks_b154 2000 m6 (nI a) (nI wa) (nI tg) 1 else fX9_asks_b154 2000 m6 (nI a) (nI wa) (nI tg) 0) = fX9_asks_b154_s (fun _ _ _ _ _ => none) m8 (nI a) (nI wa) (nI tg) 0 ∧ Core n (16 * n + 5) cap c11 m8 ∧ FrC 32 c9 c11 ∧ FrM m6 m8 ∧ c11 32 8 = m8 0 14 ∧ Done 32 c11 m8 := by
      have m14' : m6 0 14 = 0 := by rw [t5.2.2.2 14 (by decide), dM_b (by decide)]; exact m14
      unfold fX8_finishWalk
      rcases yB with ⟨b0, b1, l, t, r, hl, ht, hr, g1, g2, g3, g4, g5, g6⟩ | ⟨b0, b1, b2⟩
      · rw [b1, if_pos rfl]
        obtain ⟨c11, m8, w1, w2, w3, w4, w5, ⟨d, w6, w7⟩, w8⟩ := finish_both (n := n) (cap := cap) (a := a) (wa := wa) (tg := tg) l (16 * n + 1) 0 2000 2000 t r c9 m6 t3 (by omega) ⟨b0, y1, y2, y3, y4, g1, g2, g3, g4, g5, g6, b1, ha, hwa, by decide, htg, hl, ht, hr⟩ ⟨s, hs, by rw [t5.2.1 _ (by omega) (by omega) (by omega)]; exact e32⟩ (by omega) (by omega) (by omega)
        exact ⟨c11, m8, w1, w2, w3.le (by omega), w4, w5, by rw [w6, w7, y8, m14'], w8⟩
      · rw [b2, if_neg one_ne]
        exact ⟨c9, m6, fw_end (f := 1999) (i := 0) (by decide) (by rw [b0]; decide), as_end (f := 1999), t3.le (by omega), fun b _ _ _ _ _ _ _ => rfl, ⟨fun _ _ => rfl, fun _ _ _ => rfl, fun _ _ => rfl, fun _ _ => rfl⟩, by rw [y8, m14'], Or.inr ⟨b0, Or.inl b2, by rw [b1, b2]⟩⟩
    rw [v1, bw_eq, v2, as_val, wk_eq, bw_eq]
    unfold fX6_answer
    obtain ⟨k1, k2, k3, k4, k5⟩ := v3.2.2.2.2.2.2.1
    have fb : ∀ b, 24 ≤ b → b < 32 → c11 b = cm b := fun b h1 h2 => by
      rw [v4 b (by omega) (by omega) (by omega) (by omega) (by omega) (by omega) (by omega), t4 b (by omega) (by omega) (by omega) (by omega) (by omega), dC_out (by omega), cb b (by omega)]
    have fm : ∀ i, 276 ≤ i → i ≠ 320 → i ≠ 321 → i ≠ 324 → m8 1 i = m0 1 i := fun i h1 h2 h3 h4 => by
      rw [v5.2.1 i h1 h2, t5.2.1 i h1 h2 h4, dM_out (by omega), m1 i h3]
    rcases v7 with ⟨x1, x2, x3, -⟩ | ⟨x1, x2, x3⟩
    · rw [wr_b _ _ _ _ (by decide), x1, if_neg (show ¬ (2 : Int32) = 3 by decide), wr_b _ _ _ _ (by decide), if_neg (show ¬ (2 : Int32) = 3 by decide), bd_eq, x2, if_pos (by decide), if_pos (by decide)]
      refine ⟨_, _, _, rfl, by rw [x3], ?_⟩
      refine fin (16 * n + 5) _ _ (by omega) (v3.rn (by omega) (fun b hb => wr_ne _ _ _ hb) (fun i hi => by simp (disch := omega) only [wr_same, wr_i, wr_b]) (by simp (disch := omega) only [wr_same, wr_i, wr_b]) (by simp (disch := omega) only [wr_same, wr_i, wr_b]) (by simp (disch := omega) only [wr_same, wr_i, wr_b]) (fun b h1 h2 => by rw [wr_ne _ _ _ (by omega), wr_ne _ _ _ (by omega)]) ⟨?_, ?_, ?_, ?_, ?_⟩) (fun b h1 h2 => by rw [wr_ne _ _ _ (by omega)]; exact fb b h1 h2) (fun i h1 h2 => by simp (disch := omega) only [wr_same, wr_i, wr_b]; exact fm i (by omega) (by omega) (by omega) (by omega)) (fun i h1 => by simp (disch := omega) only [wr_same, wr_i, wr_b]; exact fm i (by omega) (by omega) (by omega) (by omega))
      · simp (disch := omega) only [wr_same, wr_i, wr_b, k1]
      · simp (disch := omega) only [wr_same, wr_i, wr_b, k2]
      · simp (disch := omega) only [wr_same, wr_i, wr_b, k3, v6]
      · simp (disch := omega) only [wr_same, wr_i, wr_b, k4]
      · simp (disch := omega) only [wr_same, wr_i, wr_b, k5]
        exact (Int32.add_zero _).symm
    · have np : ¬ m8 0 16 ≤ 0 := by rcases x2 with h | h | h | h <;> rw [h] <;> decide
      simp (disch := omega) only [wk_eq, wr_b, wr_i, x1, eq_self, if_true, bd_eq, np, if_false]
      refine ⟨_, _, _, rfl, by rw [x3], ?_⟩
      refine fin (16 * n + 5) _ _ (by omega) (v3.rn (by omega) (fun b hb => by rw [wr_ne _ _ _ hb, wr_ne _ _ _ hb]) (fun i hi => by simp (disch := omega) only [wr_same, wr_i, wr_b]) (by simp (disch := omega) only [wr_same, wr_i, wr_b]) (by simp (disch := omega) only [wr_same, wr_i, wr_b]) (by simp (disch := omega) only [wr_same, wr_i, wr_b]) (fun b h1 h2 => by rw [wr_ne _ _ _ (by omega), wr_ne _ _ _ (by omega)]) ⟨?_, ?_, ?_, ?_, ?_⟩) (fun b h1 h2 => by rw [wr_ne _ _ _ (by omega), wr_ne _ _ _ (by omega)]; exact fb b h1 h2) (fun i h1 h2 => by simp (disch := omega) only [wr_same, wr_i, wr_b]; exact fm i (by omega) (by omega) (by omega) (by omega)) (fun i h1 => by simp (disch := omega) only [wr_same, wr_i, wr_b]; exact fm i (by omega) (by omega) (by omega) (by omega))
      · simp (disch := omega) only [wr_same, wr_i, wr_b, k1]
      · simp (disch := omega) only [wr_same, wr_i, wr_b, k2]
      · simp (disch := omega) only [wr_same, wr_i, wr_b, k3, v6]
      · simp (disch := omega) only [wr_same, wr_i, wr_b, k4]
      · simp (disch := omega) only [wr_same, wr_i, wr_b, k5]
  · rw [l1, bd_eq, oc_some _ _ (isPl9 k hk), l2, bw_eq, l3, wk_eq, touch_sp (by omega), bw_eq]
    have C18 := C3.drop P hn
    have f18 : dC 9 P 6 c3 (9 + k) 0 = 1 := by rw [dC_at hk, pk]; exact fk
    have C20 := C18.touchP (by omega) hk f18
    obtain ⟨g1, g2, g3, g4, g5, g6, g7, g8, ⟨l, f, hl, hf, e1, e2, -⟩, -⟩ := (RP.full (n := n) C18.2.2.2.1 hk f18)
    unfold fX9_asks_b60 fX3_frameAt
    rw [used_sp (by omega), bw_eq]
    simp (disch := omega) only [eq_self, l21, l12, l20, na0, Nat.reduceAdd, wk_eq, lk_eq, lkN_eq, bd_eq, bw_eq, gd_nI, nI_clamp, na1, na2, na3, na4, na5, na6, na7, na8, na9, i192, i234, i276, i326, i332, i338, i96, i0, i8, ge6F, ge6T, ge4F, ge4T, ltz, lez, Nat.one_mul, if_true, if_false, one_ne, one_eq0, zero_eq0, wr0_1, glit320, glit321, glit322, glit323, glit324, glit325, glit344, cl320, cl321, cl322, cl323, cl324, cl325, cl344, wr_i, e1]
    rw [nz_wide hl, bw_eq, remw hl ha]
    have c7e : wr (dC 9 P 6 c3) 0 12 (dC 9 P 6 c3 0 12 + 1) 7 1 = dC 9 P 6 c3 7 1 := wr_b _ _ _ _ (by decide)
    rw [c7e, wr_comm (dC 9 P 6 c3) 12 1 (dC 9 P 6 c3 0 12 + 1) (dC 9 P 6 c3 7 1 + 1) (show (0 : Nat) ≠ 7 by decide), wr_comm (wr (dC 9 P 6 c3) 7 1 (dC 9 P 6 c3 7 1 + 1)) 12 7 (dC 9 P 6 c3 0 12 + 1) (dC 9 P 6 c3 7 1 + 1) (show 0 ≠ 9 + k by omega)]
    obtain ⟨k1, k2, k3, k4, k5⟩ := C18.2.2.2.2.2.2.1
    have fb : ∀ b, 24 ≤ b → b < 32 → dC 9 P 6 c3 b = cm b := fun b h1 h2 => by rw [dC_out (by omega), cb b (by omega)]
    have fm : ∀ i, 276 ≤ i → i ≠ 321 → dM 192 P 6 m4 1 i = m0 1 i := fun i h1 h2 => by rw [dM_out (by omega), m1 i h2]
    generalize dC 9 P 6 c3 = c18 at *
    generalize dM 192 P 6 m4 = m18 at *
    refine ⟨wr (wr (wr c18 7 1 (c18 7 1 + 1)) (9 + k) 7 (c18 7 1 + 1)) 0 12 (c18 0 12 + 1), _, m18 1 (192 + 7 * k + 3) + nI (a % 8 ^ l), ?_, rfl, ?_⟩
    · simp (disch := omega) only [wr_same, wr_i, wr_b, g4, g6, e1]
      rw [rest_eq l hl a ha]
    · refine fin (16 * n + 1) _ _ (by omega) (C20.rn (by omega) (fun b hb => wr_ne _ _ _ hb) (fun i hi => by simp (disch := omega) only [wr_same, wr_i, wr_b]) (by simp (disch := omega) only [wr_same, wr_i, wr_b]) (by simp (disch := omega) only [wr_same, wr_i, wr_b]) (by simp (disch := omega) only [wr_same, wr_i, wr_b]) (fun b h1 h2 => by rw [wr_ne _ _ _ (by omega)]) ⟨?_, ?_, ?_, ?_, ?_⟩) (fun b h1 h2 => by rw [wr_ne _ _ _ (by omega), wr_ne _ _ _ (by omega), wr_ne _ _ _ (by omega)]; exact fb b h1 h2) (fun i h1 h2 => by simp (disch := omega) only [wr_same, wr_i, wr_b]; exact fm i (by omega) (by omega)) (fun i h1 => by simp (disch := omega) only [wr_same, wr_i, wr_b]; exact fm i (by omega) (by omega))
      · simp (disch := omega) only [wr_same, wr_i, wr_b, k1]
      · simp (disch := omega) only [wr_same, wr_i, wr_b, k2]
      · simp (disch := omega) only [wr_same, wr_i, wr_b, k3]
      · simp (disch := omega) only [wr_same, wr_i, wr_b, k4]
      · simp (disch := omega) only [wr_same, wr_i, wr_b, k5]
