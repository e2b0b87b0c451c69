/-! PURE: current, put together -/
theorem cur_rel {n cap : Nat} {c m c' m' : Mm} (hr : Rel n cap c m) (P1 P2 Q : Nat → Bool)
  (C : ∀ b, b < 3 ∨ b = 4 ∨ b = 7 ∨ b = 15 ∨ 31 < b → c' b = c b)
  (hc1 : ∀ k, k < 6 → c' (9 + k) 0 = if P1 k = true then 0 else c (9 + k) 0) (hc1i : ∀ k, k < 6 → ∀ i, i ≠ 0 → c' (9 + k) i = c (9 + k) i)
  (hc2 : ∀ k, k < 6 → c' (17 + k) 0 = if P2 k = true then 0 else c (17 + k) 0) (hc2i : ∀ k, k < 6 → ∀ i, i ≠ 0 → c' (17 + k) i = c (17 + k) i)
  (hcw : ∀ k, k < 4 → c' (24 + 2 * k) 0 = if Q k = true then 4 else c (24 + 2 * k) 0) (hcwi : ∀ k, k < 4 → ∀ i, i ≠ 0 → c' (24 + 2 * k) i = c (24 + 2 * k) i)
  (hE : ∀ i, i < 192 ∨ (321 ≤ i ∧ i < 332) → m' 1 i = m 1 i)
  (hm1 : ∀ k, k < 6 → m' 1 (192 + 7 * k) = if P1 k = true then -1 else m 1 (192 + 7 * k)) (hm1i : ∀ k, k < 6 → ∀ i, 1 ≤ i → i < 7 → m' 1 (192 + 7 * k + i) = m 1 (192 + 7 * k + i))
  (hm2 : ∀ k, k < 6 → m' 1 (234 + 7 * k) = if P2 k = true then -1 else m 1 (234 + 7 * k)) (hm2i : ∀ k, k < 6 → ∀ i, 1 ≤ i → i < 7 → m' 1 (234 + 7 * k + i) = m 1 (234 + 7 * k + i))
  (hmw : ∀ k, k < 4 → m' 1 (276 + 11 * k) = if Q k = true then 4 else m 1 (276 + 11 * k)) (hmwi : ∀ k, k < 4 → ∀ i, 1 ≤ i → i < 11 → m' 1 (276 + 11 * k + i) = m 1 (276 + 11 * k + i))
  (hB : ∀ b, b ≠ 1 → m' b = m b) (K : Ck n (n + 1) m m') (S : RS c' m') (T : RC (n + 1) c' m')
  (L1 : ∀ k, k < 6 → P1 k = false → m 1 (192 + 7 * k) ≠ -1 → ∃ s, s < 6 ∧ m' 1 (332 + s) = m 1 (192 + 7 * k)) (L2 : ∀ k, k < 6 → P2 k = false → m 1 (234 + 7 * k) ≠ -1 → ∃ s, s < 6 ∧ m' 1 (332 + s) = m 1 (234 + 7 * k)) (L3 : ∀ k, k < 4 → Q k = false → m 1 (276 + 11 * k) = 1 → ∃ s, s < 6 ∧ m' 1 (332 + s) = m 1 (276 + 11 * k + 9)) : Rel (n + 1) cap c' m' := by
  obtain ⟨q1, q2, q3, q4, q5, q6, q7, q8, q9, q10, q11⟩ := id hr
  have E : ∀ lo hi, hi ≤ 192 ∨ (321 ≤ lo ∧ hi ≤ 332) → Ea lo hi m m' := fun lo hi h i h1 h2 => hE i (by omega)
  have T1 : RP (n + 1) 9 7 192 c' m' := q4.drop P1 hc1 hc1i (by rw [C 7 (by omega)]) hm1 hm1i K
  have T2 : RP (n + 1) 17 15 234 c' m' := q5.drop P2 hc2 hc2i (by rw [C 15 (by omega)]) hm2 hm2i K
  have T3 : RPv c' m' := q6.drop (fun k hk h => by
    rw [hc1 k hk] at h
    by_cases hp : P1 k = true
    · rw [if_pos hp] at h; exact absurd h (by decide)
    · rw [if_neg hp] at h; exact h) (fun k hk h => by
    rw [hc2 k hk] at h
    by_cases hp : P2 k = true
    · rw [if_pos hp] at h; exact absurd h (by decide)
    · rw [if_neg hp] at h; exact h) hm1i hm2i
  have T4 : RW c' m' := q7.abort Q hcw hcwi hmw hmwi
  have z6 : m' 0 6 = m 0 6 := by rw [hB 0 (by decide)]
  have z7 : m' 0 7 = m 0 7 := by rw [hB 0 (by decide)]
  have z8 : m' 0 8 = m 0 8 := by rw [hB 0 (by decide)]
  have p3 := hB 3 (by decide); have p4 := hB 4 (by decide); have p5 := hB 5 (by decide); have p6 := hB 6 (by decide); have p7 := hB 7 (by decide)
  have T5 : RLk m' := by
    refine ⟨fun k hk h => ?_, fun k hk h => ?_, fun k hk h => ?_⟩
    · rw [hm1 k hk] at h ⊢
      by_cases hp : P1 k = true
      · rw [if_pos hp] at h; exact absurd rfl h
      · rw [if_neg hp] at h ⊢; exact L1 k hk (Bool.eq_false_iff.mpr hp) h
    · rw [hm2 k hk] at h ⊢
      by_cases hp : P2 k = true
      · rw [if_pos hp] at h; exact absurd rfl h
      · rw [if_neg hp] at h ⊢; exact L2 k hk (Bool.eq_false_iff.mpr hp) h
    · rw [hmw k hk] at h
      rw [hmwi k hk 9 (by decide) (by decide)]
      by_cases hp : Q k = true
      · rw [if_pos hp] at h; exact absurd h (by decide)
      · rw [if_neg hp] at h; exact L3 k hk (Bool.eq_false_iff.mpr hp) h
  exact ⟨q1.cg (C _ (by decide)) (C _ (by decide)) (E _ _ (by omega)), S, T, T1, T2, T3, T4, q8.cg (C _ (by decide)) (E _ _ (by omega)), q9.cg (by omega) (by rw [C _ (by decide)]) (C _ (by decide)) (C _ (by decide)) z6 z7 p3 p4 p5, q10.cg (by omega) (C _ (by decide)) (C _ (by decide)) (C _ (by decide)) (C _ (by decide)) z8 p6 p7, T5⟩
/-- the state after another space is entered, before its tag is settled; then the tag -/
theorem cur_fin {n cap s : Nat} {c m : Mm} (hr : Rel n cap c m) (hn : n < 512) (hs : s < 6) (hne : ¬ m 1 344 = nI s) {c1 m1 : Mm} {x y : Nat → Nat} {kc km : Nat}
  (C1 : ∀ b, b ≠ 3 → b ≠ 6 → c1 b = c b) (c34 : c1 3 4 = nI s) (c33 : c1 3 3 = nI kc) (hkc : kc ≤ n + 1) (M1 : ∀ b, b ≠ 1 → m1 b = m b) (E1 : ∀ i, i ≠ 320 → ¬ (338 ≤ i ∧ i < 344) → m1 1 i = m 1 i) (m320 : m1 1 320 = nI km) (hkm : km ≤ 16 * (n + 1)) (K : Ck n (n + 1) m m1)
  (hx : ∀ u, u < 6 → c1 6 u = nI (x u) ∧ m1 1 (338 + u) = nI (y u) ∧ x u ≤ kc ∧ y u ≤ km) (hO : ∀ u v, u < 6 → v < 6 → u ≠ s → v ≠ s → m 1 (332 + u) ≠ -1 → m 1 (332 + v) ≠ -1 → (x u < x v ↔ y u < y v))
  {e : Nat} {P1 P2 Q : Nat → Bool} {tg : Int32} (htg : Vk 3 tg) (he : e < 6)
  (hT : ∀ u, u < 6 → u ≠ s → u ≠ e → m 1 (332 + u) = tg → False) (hTe : (m 1 (332 + e) = tg ∧ e ≠ s) ∨ (e = s ∧ (m 1 (332 + s) = -1 ∨ m 1 (332 + s) = tg)))
  (hP : (e ≠ s → ∀ k, k < 6 → (P1 k = true ↔ m 1 (192 + 7 * k) = tg) ∧ (P2 k = true ↔ m 1 (234 + 7 * k) = tg)) ∧ (e ≠ s → ∀ k, k < 4 → (Q k = true ↔ (m 1 (276 + 11 * k) = 1 ∧ m 1 (276 + 11 * k + 9) = tg))) ∧ (e ≠ s → m 1 (332 + s) = -1))
  {c' m' : Mm} (hc' : c' = wr (dC 17 P2 6 (dC 9 P1 6 (aC Q 4 (wr c1 5 e (-1))))) 5 s tg) (hm' : m' = wr (wr (aM Q 4 (dM 234 P2 6 (dM 192 P1 6 (wr m1 1 (332 + e) (-1))))) 1 (332 + s) tg) 1 344 (nI s)) : Rel (n + 1) cap c' m' := by
  obtain ⟨q1, q2, q3, q4, q5, q6, q7, q8, q9, q10, q11⟩ := id hr
  obtain ⟨g0, hg0, etg⟩ := id htg
  have tgn : ¬ tg = -1 := by rw [etg, m1ne (by omega)]; exact id
  have r5 : ∀ u, u < 6 → c1 5 u = m 1 (332 + u) := fun u hu => by rw [C1 5 (by decide) (by decide)]; exact (q2.1 u hu).2.1
  have tags : ∀ u, u < 6 → c' 5 u = (if u = s then tg else if u = e then -1 else m 1 (332 + u)) ∧ m' 1 (332 + u) = (if u = s then tg else if u = e then -1 else m 1 (332 + u)) := by
    intro u hu
    subst hc' hm'
    rw [wr_i _ _ _ (show 332 + u ≠ 344 by omega)]
    by_cases h1 : u = s
    · subst h1
      rw [wr_same, wr_same, if_pos rfl]
      exact ⟨rfl, rfl⟩
    · rw [wr_i _ _ _ h1, wr_i _ _ _ (show 332 + u ≠ 332 + s by omega), dC_out (by omega), dC_out (by omega), aC_out (by omega), aM_out (by omega), dM_out (by omega), dM_out (by omega), if_neg h1]
      by_cases h2 : u = e
      · subst h2
        rw [wr_same, wr_same, if_pos rfl]
        exact ⟨rfl, rfl⟩
      · rw [wr_i _ _ _ h2, wr_i _ _ _ (by omega), if_neg h2, r5 u hu, E1 _ (by omega) (by omega)]
        exact ⟨rfl, rfl⟩
  have cur : c' 3 4 = nI s ∧ m' 1 344 = nI s ∧ c' 3 3 = nI kc ∧ m' 1 320 = nI km := by
    subst hc' hm'
    rw [wr_b _ _ _ _ (by decide), dC_out (by omega), dC_out (by omega), aC_out (by omega), wr_b _ _ _ _ (by decide), wr_same, wr_b _ _ _ _ (by decide), wr_i _ _ _ (by decide), wr_i _ _ _ (by omega), aM_out (by omega), dM_out (by omega), dM_out (by omega), wr_i _ _ _ (by omega)]
    exact ⟨c34, rfl, c33, m320⟩
  have S : RS c' m' := by
    refine ⟨fun u hu => ?_, by rw [cur.1, cur.2.1], by rw [cur.2.1]; exact Or.inr ⟨s, hs, rfl⟩, fun u v hu hv h1 h2 => ?_, fun u hu h1 => ?_⟩
    · rw [(tags u hu).1, (tags u hu).2]
      obtain ⟨y1, y2, y3, y4⟩ := q2.1 u hu
      have z1 : c' 4 u = c 4 u := by
        subst hc'
        rw [wr_b _ _ _ _ (by decide), dC_out (by omega), dC_out (by omega), aC_out (by omega), wr_b _ _ _ _ (by decide), C1 4 (by decide) (by decide)]
      have z2 : m' 1 (326 + u) = m 1 (326 + u) := by
        subst hm'
        rw [wr_i _ _ _ (by omega), wr_i _ _ _ (by omega), aM_out (by omega), dM_out (by omega), dM_out (by omega), wr_i _ _ _ (by omega), E1 _ (by omega) (by omega)]
      rw [z1, z2]
      refine ⟨y1, rfl, y3, ?_⟩
      by_cases h1 : u = s
      · rw [if_pos h1]; exact Or.inr htg
      · rw [if_neg h1]
        by_cases h2 : u = e
        · rw [if_pos h2]; exact Or.inl rfl
        · rw [if_neg h2]; exact y4
    · rw [(tags u hu).2, (tags v hv).2] at h1
      rw [(tags u hu).2] at h2
      by_cases a1 : u = s
      · by_cases a2 : v = s
        · omega
        · rw [if_pos a1, if_neg a2] at h1
          by_cases a3 : v = e
          · rw [if_pos a3] at h1
            exact absurd h1 tgn
          · rw [if_neg a3] at h1
            exact (hT v hv a2 a3 h1.symm).elim
      · rw [if_neg a1] at h1 h2
        by_cases a3 : u = e
        · rw [if_pos a3] at h2
          exact absurd rfl h2
        · rw [if_neg a3] at h1 h2
          by_cases a2 : v = s
          · rw [if_pos a2] at h1
            exact (hT u hu a1 a3 h1).elim
          · rw [if_neg a2] at h1
            by_cases a4 : v = e
            · rw [if_pos a4] at h1
              exact absurd h1 h2
            · rw [if_neg a4] at h1
              exact q2.2.2.2.1 u v hu hv h1 h2
    · rw [cur.2.1] at h1
      have : s = u := nI_inj (by omega) (by omega) h1
      rw [(tags u hu).2, if_pos this.symm]
      exact tgn
  have T : RC (n + 1) c' m' := by
    refine ⟨x, y, kc, km, cur.2.2.1, hkc, cur.2.2.2, hkm, fun u hu => ?_, fun u v hu hv h1 h2 h3 h4 => ?_⟩
    · have z1 : c' 6 u = c1 6 u := by
        subst hc'
        rw [wr_b _ _ _ _ (by decide), dC_out (by omega), dC_out (by omega), aC_out (by omega), wr_b _ _ _ _ (by decide)]
      have z2 : m' 1 (338 + u) = m1 1 (338 + u) := by
        subst hm'
        rw [wr_i _ _ _ (by omega), wr_i _ _ _ (by omega), aM_out (by omega), dM_out (by omega), dM_out (by omega), wr_i _ _ _ (by omega)]
      rw [z1, z2]
      exact hx u hu
    · rw [cur.2.1] at h3 h4
      have us : u ≠ s := fun h => h3 (by rw [h])
      have vs : v ≠ s := fun h => h4 (by rw [h])
      rw [(tags u hu).2, if_neg us] at h1
      rw [(tags v hv).2, if_neg vs] at h2
      by_cases a3 : u = e
      · rw [if_pos a3] at h1; exact absurd rfl h1
      · by_cases a4 : v = e
        · rw [if_pos a4] at h2; exact absurd rfl h2
        · rw [if_neg a3] at h1
          rw [if_neg a4] at h2
          exact hO u v hu hv us vs h1 h2
  have keep : ∀ v : Int32, v ≠ -1 → (e ≠ s → v ≠ tg) → (∃ u, u < 6 ∧ m 1 (332 + u) = v) → ∃ u, u < 6 ∧ m' 1 (332 + u) = v := by
    intro v hv h1 h2
    obtain ⟨u, hu, eu⟩ := h2
    by_cases us : u = s
    · refine ⟨s, hs, ?_⟩
      rw [(tags s hs).2, if_pos rfl]
      rw [us] at eu
      rcases hTe with ⟨-, hes⟩ | ⟨-, h⟩
      · have := hP.2.2 hes
        rw [eu] at this
        exact absurd this hv
      · rcases h with h | h
        · rw [eu] at h; exact absurd h hv
        · rw [← h, eu]
    · refine ⟨u, hu, ?_⟩
      rw [(tags u hu).2, if_neg us]
      by_cases ue : u = e
      · rcases hTe with ⟨h, hes⟩ | ⟨h, -⟩
        · rw [ue, h] at eu
          exact absurd eu.symm (h1 hes)
        · omega
      · rw [if_neg ue]; exact eu
  have K' : Ck n (n + 1) m m' := by
    obtain ⟨k1, k2, a, b, k3, k4, k5, k6, k7⟩ := K
    exact ⟨k1, k2, a, b, k3, k4, by rw [cur.2.2.2, ← m320]; exact k5, k6, k7⟩
  have cb : ∀ b, b ≠ 5 → c' b = dC 17 P2 6 (dC 9 P1 6 (aC Q 4 (wr c1 5 e (-1)))) b := fun b hb => by
    subst hc'
    rw [wr_ne _ _ _ hb]
  have mb : ∀ i, i < 332 → m' 1 i = aM Q 4 (dM 234 P2 6 (dM 192 P1 6 (wr m1 1 (332 + e) (-1)))) 1 i := fun i hi => by
    subst hm'
    rw [wr_i _ _ _ (by omega), wr_i _ _ _ (by omega)]
  have mo : ∀ i, i < 320 ∨ 321 ≤ i ∧ i < 332 → wr m1 1 (332 + e) (-1) 1 i = m 1 i := fun i hi => by
    rw [wr_i _ _ _ (by omega), E1 _ (by omega) (by omega)]
  have co : ∀ b, b ≠ 3 → b ≠ 5 → b ≠ 6 → wr c1 5 e (-1) b = c b := fun b h1 h2 h3 => by
    rw [wr_ne _ _ _ h2, C1 b h1 h3]
  refine cur_rel hr P1 P2 Q ?_ ?_ ?_ ?_ ?_ ?_ ?_ ?_ ?_ ?_ ?_ ?_ ?_ ?_ ?_ K' S T ?_ ?_ ?_
  · intro b hb
    rw [cb b (by omega), dC_out (by omega), dC_out (by omega), aC_out (by omega), co b (by omega) (by omega) (by omega)]
  · intro k hk
    rw [cb _ (by omega), dC_out (by omega), dC_at hk, aC_out (by omega), co _ (by omega) (by omega) (by omega)]
  · intro k hk i hi
    rw [cb _ (by omega), dC_i hi, dC_i hi, aC_out (by omega), co _ (by omega) (by omega) (by omega)]
  · intro k hk
    rw [cb _ (by omega), dC_at hk, dC_out (by omega), aC_out (by omega), co _ (by omega) (by omega) (by omega)]
  · intro k hk i hi
    rw [cb _ (by omega), dC_i hi, dC_i hi, aC_out (by omega), co _ (by omega) (by omega) (by omega)]
  · intro k hk
    rw [cb _ (by omega), dC_out (by omega), dC_out (by omega), aC_at hk, co _ (by omega) (by omega) (by omega)]
  · intro k hk i hi
    rw [cb _ (by omega), dC_out (by omega), dC_out (by omega), aC_i hi, co _ (by omega) (by omega) (by omega)]
  · intro i hi
    rw [mb i (by omega), aM_out (by omega), dM_out (by omega), dM_out (by omega), mo i (by omega)]
  · intro k hk
    rw [mb _ (by omega), aM_out (by omega), dM_out (by omega), dM_at hk, mo _ (by omega)]
  · intro k hk i h1 h2
    rw [mb _ (by omega), aM_out (by omega), dM_out (by omega), dM_i h1 h2, mo _ (by omega)]
  · intro k hk
    rw [mb _ (by omega), aM_out (by omega), dM_at hk, dM_out (by omega), mo _ (by omega)]
  · intro k hk i h1 h2
    rw [mb _ (by omega), aM_out (by omega), dM_i h1 h2, dM_out (by omega), mo _ (by omega)]
  · intro k hk
    rw [mb _ (by omega), aM_at hk, dM_out (by omega), dM_out (by omega), mo _ (by omega)]
  · intro k hk i h1 h2
    rw [mb _ (by omega), aM_i h1 h2, dM_out (by omega), dM_out (by omega), mo _ (by omega)]
  · intro b hb
    subst hm'
    rw [wr_ne _ _ _ hb, wr_ne _ _ _ hb, aM_b hb, dM_b hb, dM_b hb, wr_ne _ _ _ hb, M1 b hb]
  · intro k hk hp hx
    refine keep _ hx (fun hes h => ?_) (q11.1 k hk hx)
    rw [((hP.1 hes k hk).1).mpr h] at hp
    cases hp
  · intro k hk hp hx
    refine keep _ hx (fun hes h => ?_) (q11.2.1 k hk hx)
    rw [((hP.1 hes k hk).2).mpr h] at hp
    cases hp
  · intro k hk hp hx
    obtain ⟨u, hu, eu⟩ := q11.2.2 k hk hx
    obtain ⟨g9, hg9, e9⟩ := ((q7 k hk).2.2.2.2.2.2.2.1 hx).2.2.2.2.2.2.2.2.2
    refine keep _ (by rw [e9, Ne, m1ne (by omega)]; exact id) (fun hes h => ?_) ⟨u, hu, eu⟩
    rw [(hP.2.1 hes k hk).mpr ⟨hx, h⟩] at hp
    cases hp
