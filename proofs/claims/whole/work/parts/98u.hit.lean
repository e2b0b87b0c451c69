/-! PURE: hit or miss, both sides -/
theorem wr_comm (m : Mm) {b b' : Nat} (i i' : Nat) (v v' : Int32) (h : b ≠ b') : wr (wr m b i v) b' i' v' = wr (wr m b' i' v') b i v := by
  funext z j
  by_cases e : z = b
  · subst e
    rw [wr_b _ _ _ _ h]
    by_cases e2 : j = i
    · subst e2
      rw [wr_same, wr_same]
    · rw [wr_i _ _ _ e2, wr_i _ _ _ e2, wr_b _ _ _ _ h]
  · rw [wr_b _ _ _ _ e]
    by_cases e3 : z = b'
    · subst e3
      by_cases e2 : j = i'
      · subst e2
        rw [wr_same, wr_same]
      · rw [wr_i _ _ _ e2, wr_i _ _ _ e2, wr_b _ _ _ _ e]
    · rw [wr_b _ _ _ _ e3, wr_b _ _ _ _ e3, wr_b _ _ _ _ e]
/-- counters alone have changed -/
theorem Core.rn {n B cap : Nat} {c m c' m' : Mm} (hC : Core n B cap c m) (hB : B < 2 ^ 30) (hc : ∀ b, b ≠ 0 → c' b = c b) (hm : ∀ i, i < 321 ∨ 326 ≤ i → m' 1 i = m 1 i) (h6 : m' 0 6 = m 0 6) (h7 : m' 0 7 = m 0 7) (h8 : m' 0 8 = m 0 8) (hb : ∀ b, 3 ≤ b → b ≤ 7 → m' b = m b) (hN : RN c' m') : Core n B cap c' m' := by
  obtain ⟨q1, q2, q3, q4, q5, q6, q8, q9, q10, q11⟩ := hC
  have E : ∀ lo hi, hi ≤ 321 ∨ 326 ≤ lo → Ea lo hi m m' := fun lo hi h i h1 h2 => hm i (by omega)
  have K := q4.ck0 hB (hm 320 (by omega))
  exact ⟨q1.cg (hc 1 (by decide)) (hc 2 (by decide)) (E _ _ (by omega)), q2.cg (by rw [hc 3 (by decide)]) (hc 4 (by decide)) (hc 5 (by decide)) (E _ _ (by omega)) (hm 344 (by omega)), q3.cg (hc 3 (by decide)) (hc 6 (by decide)) K (E _ _ (by omega)),
    q4.cg (fun k hk => hc _ (by omega)) (by rw [hc 7 (by decide)]) K (E _ _ (by omega)), q5.cg (fun k hk => hc _ (by omega)) (by rw [hc 15 (by decide)]) K (E _ _ (by omega)),
    q6.cg (fun k hk => hc _ (by omega)) (fun k hk => hc _ (by omega)) (E _ _ (by omega)), hN,
    q9.cg (Nat.le_refl _) (by rw [hc 37 (by decide)]) (hc 38 (by decide)) (hc 39 (by decide)) h6 h7 (hb 3 (by decide) (by decide)) (hb 4 (by decide) (by decide)) (hb 5 (by decide) (by decide)),
    q10.cg (Nat.le_refl _) (hc 40 (by decide)) (hc 41 (by decide)) (hc 42 (by decide)) (hc 43 (by decide)) h8 (hb 6 (by decide) (by decide)) (hb 7 (by decide) (by decide)), q11.cg (E _ _ (by omega)) (E _ _ (by omega))⟩
/-- places of the cache go -/
theorem Core.drop {n cap : Nat} {c m : Mm} (P : Nat → Bool) (hn : n < 512) (hC : Core n (16 * n) cap c m) : Core n (16 * n) cap (dC 9 P 6 c) (dM 192 P 6 m) := by
  obtain ⟨q1, q2, q3, q4, q5, q6, q8, q9, q10, q11⟩ := hC
  have E : ∀ lo hi, hi ≤ 192 ∨ 234 ≤ lo → Ea lo hi m (dM 192 P 6 m) := fun lo hi h i h1 h2 => dM_out (by omega)
  have hc : ∀ b, b < 9 ∨ 15 ≤ b → dC 9 P 6 c b = c b := fun b hb => dC_out (by omega)
  have K := q4.ck0 (m' := dM 192 P 6 m) (by omega) (dM_out (by omega))
  have K1 : Ck n n m (dM 192 P 6 m) := by
    obtain ⟨x, y, kc, km, r1, r2, r3, r4, -⟩ := q4
    exact ⟨by omega, by omega, km, km, r3, r4, by rw [dM_out (by omega)]; exact r3, by omega, by omega⟩
  have T4 : RP n 9 7 192 (dC 9 P 6 c) (dM 192 P 6 m) := RP.drop (n := n) P q4 (fun k hk => dC_at hk) (fun k hk i hi => dC_i hi) (by rw [hc 7 (by omega)]) (fun k hk => dM_at hk) (fun k hk i h1 h2 => dM_i h1 h2) K1
  refine ⟨q1.cg (hc 1 (by omega)) (hc 2 (by omega)) (E _ _ (by omega)), q2.cg (by rw [hc 3 (by omega)]) (hc 4 (by omega)) (hc 5 (by omega)) (E _ _ (by omega)) (dM_out (by omega)), q3.cg (hc 3 (by omega)) (hc 6 (by omega)) K (E _ _ (by omega)), T4,
    q5.cg (fun k hk => hc _ (by omega)) (by rw [hc 15 (by omega)]) K (E _ _ (by omega)), q6.drop (fun k hk h => ?_) (fun k hk h => by rw [hc _ (by omega)] at h; exact h) (fun k hk i h1 h2 => dM_i h1 h2) (fun k hk i h1 h2 => dM_out (by omega)), q8.cg (hc 0 (by omega)) (E _ _ (by omega)),
    q9.cg (Nat.le_refl _) (by rw [hc 37 (by omega)]) (hc 38 (by omega)) (hc 39 (by omega)) (by rw [dM_b (by decide)]) (by rw [dM_b (by decide)]) (dM_b (by decide)) (dM_b (by decide)) (dM_b (by decide)),
    q10.cg (Nat.le_refl _) (hc 40 (by omega)) (hc 41 (by omega)) (hc 42 (by omega)) (hc 43 (by omega)) (by rw [dM_b (by decide)]) (dM_b (by decide)) (dM_b (by decide)), q11.drop (fun k hk h => ?_) (fun k hk h => dM_out (by omega)) (fun k hk h => ?_) (E _ _ (by omega))⟩
  · rw [dC_at hk] at h
    by_cases hp : P k = true
    · rw [if_pos hp] at h; exact absurd h (by decide)
    · rw [if_neg hp] at h; exact h
  · rw [dM_at hk] at h ⊢
    by_cases hp : P k = true
    · rw [if_pos hp] at h; exact absurd rfl h
    · rw [if_neg hp]
  · rw [dM_out (by omega)] at h
    exact ⟨h, dM_out (by omega)⟩
/-- a page is used -/
theorem Core.touchP {n B cap k : Nat} {c m : Mm} (hC : Core n B cap c m) (hB : B + 1 < 2 ^ 30) (hk : k < 6) (fk : c (9 + k) 0 = 1) : Core n (B + 1) cap (wr (wr c 7 1 (c 7 1 + 1)) (9 + k) 7 (c 7 1 + 1)) (wr (wr m 1 320 (m 1 320 + 1)) 1 (192 + 7 * k + 6) (m 1 320 + 1)) := by
  obtain ⟨q1, q2, q3, q4, q5, q6, q8, q9, q10, q11⟩ := hC
  have T4 := touch_rel (k := k) (c' := wr (wr c 7 1 (c 7 1 + 1)) (9 + k) 7 (c 7 1 + 1)) (m' := wr (wr m 1 320 (m 1 320 + 1)) 1 (192 + 7 * k + 6) (m 1 320 + 1)) q4 hB (by decide) (by decide) hk fk (by simp (disch := omega) only [wr_same, wr_i, wr_b]) (by simp (disch := omega) only [wr_same, wr_i, wr_b]) (fun i hi => by simp (disch := omega) only [wr_same, wr_i, wr_b]) (fun z h1 h2 => by rw [wr_ne _ _ _ h2, wr_ne _ _ _ h1]) (by simp (disch := omega) only [wr_same, wr_i, wr_b]) (by simp (disch := omega) only [wr_same, wr_i, wr_b]) (fun i h1 h2 => by simp (disch := omega) only [wr_same, wr_i, wr_b]) (fun z hz => by rw [wr_ne _ _ _ hz, wr_ne _ _ _ hz])
  have hc : ∀ b, b ≠ 7 → b ≠ 9 + k → wr (wr c 7 1 (c 7 1 + 1)) (9 + k) 7 (c 7 1 + 1) b = c b := fun b h1 h2 => by rw [wr_ne _ _ _ h2, wr_ne _ _ _ h1]
  have c0 : wr (wr c 7 1 (c 7 1 + 1)) (9 + k) 7 (c 7 1 + 1) (9 + k) 0 = c (9 + k) 0 := by simp (disch := omega) only [wr_same, wr_i, wr_b]
  have m3 : wr (wr m 1 320 (m 1 320 + 1)) 1 (192 + 7 * k + 6) (m 1 320 + 1) 1 320 = m 1 320 + 1 := by simp (disch := omega) only [wr_same, wr_i, wr_b]
  have mo : ∀ i, i ≠ 320 → i ≠ 192 + 7 * k + 6 → wr (wr m 1 320 (m 1 320 + 1)) 1 (192 + 7 * k + 6) (m 1 320 + 1) 1 i = m 1 i := fun i h1 h2 => by simp (disch := omega) only [wr_same, wr_i, wr_b]
  have mz : ∀ b, b ≠ 1 → wr (wr m 1 320 (m 1 320 + 1)) 1 (192 + 7 * k + 6) (m 1 320 + 1) b = m b := fun b hb => by rw [wr_ne _ _ _ hb, wr_ne _ _ _ hb]
  generalize wr (wr c 7 1 (c 7 1 + 1)) (9 + k) 7 (c 7 1 + 1) = c' at T4 hc c0
  generalize wr (wr m 1 320 (m 1 320 + 1)) 1 (192 + 7 * k + 6) (m 1 320 + 1) = m' at T4 m3 mo mz
  have E : ∀ lo hi, hi ≤ 192 ∨ (234 ≤ lo ∧ hi ≤ 320) ∨ 321 ≤ lo → Ea lo hi m m' := fun lo hi h i h1 h2 => mo i (by omega) (by omega)
  have K := q4.ck1 (m' := m') hB m3
  refine ⟨q1.cg (hc 1 (by omega) (by omega)) (hc 2 (by omega) (by omega)) (E _ _ (by omega)), q2.cg (by rw [hc 3 (by omega) (by omega)]) (hc 4 (by omega) (by omega)) (hc 5 (by omega) (by omega)) (E _ _ (by omega)) (mo 344 (by omega) (by omega)), q3.cg (hc 3 (by omega) (by omega)) (hc 6 (by omega) (by omega)) K (E _ _ (by omega)),
    T4, q5.cg (fun j hj => hc _ (by omega) (by omega)) (by rw [hc 15 (by omega) (by omega)]) K (E _ _ (by omega)), ⟨fun j hj => ?_, fun j hj => ?_⟩, q8.cg (hc 0 (by omega) (by omega)) (E _ _ (by omega)),
    q9.cg (Nat.le_refl _) (by rw [hc 37 (by omega) (by omega)]) (hc 38 (by omega) (by omega)) (hc 39 (by omega) (by omega)) (by rw [mz 0 (by decide)]) (by rw [mz 0 (by decide)]) (mz 3 (by decide)) (mz 4 (by decide)) (mz 5 (by decide)),
    q10.cg (Nat.le_refl _) (hc 40 (by omega) (by omega)) (hc 41 (by omega) (by omega)) (hc 42 (by omega) (by omega)) (hc 43 (by omega) (by omega)) (by rw [mz 0 (by decide)]) (mz 6 (by decide)) (mz 7 (by decide)), ⟨fun j hj => ?_, fun j hj => ?_, fun j hj => ?_⟩⟩
  · have e0 : c' (9 + j) 0 = c (9 + j) 0 := by
      by_cases e : j = k
      · subst e; exact c0
      · rw [hc _ (by omega) (by omega)]
    rw [e0, mo _ (by omega) (by omega), mo _ (by omega) (by omega)]
    exact q6.1 j hj
  · rw [hc _ (by omega) (by omega), mo _ (by omega) (by omega), mo _ (by omega) (by omega), mo _ (by omega) (by omega)]
    exact q6.2 j hj
  · intro h
    rw [mo _ (by omega) (by omega)] at h ⊢
    obtain ⟨s, hs, es⟩ := q11.1 j hj h
    exact ⟨s, hs, by rw [mo _ (by omega) (by omega)]; exact es⟩
  · intro h
    rw [mo _ (by omega) (by omega)] at h ⊢
    obtain ⟨s, hs, es⟩ := q11.2.1 j hj h
    exact ⟨s, hs, by rw [mo _ (by omega) (by omega)]; exact es⟩
  · intro h
    rw [mo _ (by omega) (by omega)] at h ⊢
    obtain ⟨s, hs, es⟩ := q11.2.2 j hj h
    exact ⟨s, hs, by rw [mo _ (by omega) (by omega)]; exact es⟩
theorem hit_both {n a wa tg s : Nat} {c m : Mm} (h : RP n 9 7 192 c m) (hn : n < 512) (ha : a < 512) (hs : s < 6) (h3 : c 3 4 = nI s) (h5 : c 5 s = nI tg) (hcur : m 1 344 = nI s) (ht : m 1 (332 + s) = nI tg) :
    (∃ F : Nat → Bool, fX8_latestFit c (nI a) (nI wa) = some none ∧ fX8_clearFitsUsedLater c (nI a) none = some (dC 9 F 6 c, ()) ∧ (bd (fX9_latestThatFits m (nI a)) (fun r5 => fX9_asks_b23 2000 m (nI a) (nI wa) r5)) = fX9_asks_b23_s (fun _ _ _ _ => none) (dM 192 F 6 m) (nI a) (nI wa) (-1)) ∨
    (∃ (k : Nat) (P : Nat → Bool), k < 6 ∧ c (9 + k) 0 = 1 ∧ P k = false ∧ fX8_latestFit c (nI a) (nI wa) = some (some (9 + k)) ∧ fX8_clearFitsUsedLater c (nI a) (some (9 + k)) = some (dC 9 P 6 c, ()) ∧ (bd (fX9_latestThatFits m (nI a)) (fun r5 => fX9_asks_b23 2000 m (nI a) (nI wa) r5)) = fX9_asks_b60 (dM 192 P 6 m) (nI a) (nI (192 + 7 * k))) := by
  have hFb : ∀ k, k < 6 → ((fun k => decide ((¬ m 1 (192 + 7 * k) = -1 ∧ fX8_firstOf (nI a) (m 1 (192 + 7 * k + 1)) = m 1 (192 + 7 * k + 2)) ∧ (m 1 (192 + 7 * k) = nI tg ∨ ¬ m 1 (192 + 7 * k + 4) &&& 8 = 0))) k = true ↔ Fit a tg k m) := fun k _ => decide_eq_true_iff
  generalize (fun k => decide ((¬ m 1 (192 + 7 * k) = -1 ∧ fX8_firstOf (nI a) (m 1 (192 + 7 * k + 1)) = m 1 (192 + 7 * k + 2)) ∧ (m 1 (192 + 7 * k) = nI tg ∨ ¬ m 1 (192 + 7 * k + 4) &&& 8 = 0))) = F at hFb
  have hFc : ∀ k, k < 6 → ((¬ c (9 + k) 0 = 0 ∧ fX8_firstOf (nI a) (c (9 + k) 2) = c (9 + k) 3 ∧ (c (9 + k) 1 = nI tg ∨ ¬ c (9 + k) 5 &&& 8 = 0)) ↔ Fit a tg k m) := fun k hk => pl_ad h hk (fun _ e => by rw [e])
  have full : ∀ k, k < 6 → Fit a tg k m → c (9 + k) 0 = 1 := fun k hk f => by
    rcases h.dich hk with ⟨e, -⟩ | ⟨-, e⟩
    · exact e
    · exact absurd e f.1.1
  have hSv : ∀ k, k < 6 → Fit a tg k m → (Srv wa k m ↔ (nI wa &&& (c (9 + k) 5 ^^^ -1) = 0 ∧ (nI wa &&& 1 = 0 ∨ c (9 + k) 6 = 1))) := fun k hk f => by
    obtain ⟨-, -, -, -, -, -, e5, e6, -⟩ := h.full hk (full k hk f)
    rw [e5, e6]
    exact Iff.rfl
  obtain ⟨x, y, kc, km, r1, r2, r3, r4, r5, r6, r7⟩ := id h
  have xy : ∀ k, k < 6 → Fit a tg k m → c (9 + k) 7 = nI (x k) ∧ m 1 (192 + 7 * k + 6) = nI (y k) ∧ x k ≤ kc ∧ y k ≤ km := fun k hk f => by
    rcases r5 k hk with ⟨-, e⟩ | ⟨-, e⟩
    · exact e
    · exact absurd e f.1.1
  have ord : ∀ j k, j < 6 → k < 6 → Fit a tg j m → Fit a tg k m → (c (9 + j) 7 ≤ c (9 + k) 7 ↔ m 1 (192 + 7 * j + 6) ≤ m 1 (192 + 7 * k + 6)) := fun j k hj hk fj fk => by
    obtain ⟨u1, u2, u3, u4⟩ := xy j hj fj
    obtain ⟨v1, v2, v3, v4⟩ := xy k hk fk
    rw [u1, u2, v1, v2, nle (by omega) (by omega), nle (by omega) (by omega)]
    have := (r6 k j hk hj (full k hk fk) (full j hj fj)).1
    omega
  have hU : ∀ i j, i < 6 → j < 6 → Fit a tg i m → Fit a tg j m → m 1 (192 + 7 * i + 6) ≤ m 1 (192 + 7 * j + 6) → m 1 (192 + 7 * j + 6) ≤ m 1 (192 + 7 * i + 6) → i = j := fun i j hi hj fi fj l1 l2 => by
    rw [← ord i j hi hj fi fj, (xy i hi fi).1, (xy j hj fj).1, nle (by have := (xy i hi fi).2.2.1; omega) (by have := (xy j hj fj).2.2.1; omega)] at l1
    rw [← ord j i hj hi fj fi, (xy i hi fi).1, (xy j hj fj).1, nle (by have := (xy j hj fj).2.2.1; omega) (by have := (xy i hi fi).2.2.1; omega)] at l2
    exact (r6 i j hi hj (full i hi fi) (full j hj fj)).2 (by omega)
  obtain ⟨r, e1, e2, e3⟩ := asks_lp (wa := wa) ha (fun k hk => h.ok hk) hs hcur ht hFb hU 2000 (fun _ => false) (Nat.lt_of_le_of_lt (fa_cnt_le _ _) (by decide)) (fun j _ h => by cases h) (fun i j _ _ _ _ h => by cases h)
  rw [dM_f] at e1 e2 e3
  rcases latest_c (c := c) (a := a) (wa := wa) hs h3 h5 hFc hSv with ⟨l1, l2⟩ | ⟨k, hk, l1, l2, l3, l4⟩
  · left
    refine ⟨F, l1, clear_n hs h3 h5 (fun k hk => (hFc k hk).trans (hFb k hk).symm), ?_⟩
    rw [e1, bd_eq, e2 l2]
  · right
    have hPb : ∀ j, j < 6 → ((fun j => F j && decide (¬ m 1 (192 + 7 * j + 6) ≤ m 1 (192 + 7 * k + 6))) j = true ↔ (Fit a tg j m ∧ ¬ m 1 (192 + 7 * j + 6) ≤ m 1 (192 + 7 * k + 6))) := fun j hj => by
      show (F j && decide _) = true ↔ _
      rw [Bool.and_eq_true, decide_eq_true_iff, hFb j hj]
    generalize (fun j => F j && decide (¬ m 1 (192 + 7 * j + 6) ≤ m 1 (192 + 7 * k + 6))) = P at hPb
    refine ⟨k, P, hk, full k hk l2, Bool.eq_false_iff.mpr (fun z => ((hPb k hk).mp z).2 (le_rf _)), l1, clear_s hs hk h3 h5 hFc (fun j hj => ?_), ?_⟩
    · rw [hPb j hj]
      exact ⟨fun z => ⟨z.1, fun q => z.2 ((ord j k hj hk z.1 l2).mp q)⟩, fun z => ⟨z.1, fun q => z.2 ((ord j k hj hk z.1 l2).mpr q)⟩⟩
    · rw [e1, bd_eq, e3 k hk l2 l3 (fun j hj fj sj => (ord j k hj hk fj l2).mp (l4 j hj fj sj)) P hPb]
