/-! PURE: what a walk leaves alone -/
def Core (n B cap : Nat) (c m : Mm) : Prop := RT c m ∧ RS c m ∧ RCB n B c m ∧ RPB B 9 7 192 c m ∧ RPB B 17 15 234 c m ∧ RPv c m ∧ RN c m ∧ RH n c m ∧ RF n cap c m ∧ RLk m
theorem Rel.core {n cap : Nat} {c m : Mm} (h : Rel n cap c m) : Core n (16 * n) cap c m := by
  obtain ⟨q1, q2, q3, q4, q5, q6, q7, q8, q9, q10, q11⟩ := h
  exact ⟨q1, q2, q3, q4, q5, q6, q8, q9, q10, q11⟩
theorem RPB.le {B B' b q a : Nat} {c m : Mm} (h : RPB B b q a c m) (hB : B ≤ B') : RPB B' b q a c m := by
  obtain ⟨x, y, kc, km, r1, r2, r3, r4, r5⟩ := h
  exact ⟨x, y, kc, km, r1, by omega, r3, by omega, r5⟩
theorem Core.rel {n B cap : Nat} {c m : Mm} (h : Core n B cap c m) (hB : B ≤ 16 * n + 16) (w : RW c m) : Rel (n + 1) cap c m := by
  obtain ⟨q1, q2, q3, q4, q5, q6, q8, q9, q10, q11⟩ := h
  refine ⟨q1, q2, ?_, q4.le (by omega), q5.le (by omega), q6, w, q8, ?_, ?_, q11⟩
  · obtain ⟨x, y, kc, km, r1, r2, r3, r4, r5⟩ := q3
    exact ⟨x, y, kc, km, r1, by omega, r3, by omega, r5⟩
  · obtain ⟨t, r1, r2⟩ := q9
    exact ⟨t, by omega, r2⟩
  · obtain ⟨r1, r2, r3, r4, k, r5, r6, r7, r8, r9⟩ := q10
    refine ⟨r1, r2.le (by omega), fun s hs => ⟨(r3 s hs).1, (r3 s hs).2.le (by omega)⟩, r4, k, by omega, r6, r7, fun j hj => ⟨(r8 j hj).1, (r8 j hj).2.le (by omega)⟩, r9⟩
/-- nothing but tables' marks and what holds nothing between calls has changed -/
theorem Core.cg {n B cap : Nat} {c m c' m' : Mm} (h : Core n B cap c m) (hB : B < 2 ^ 30) (hT : RT c' m') (hc : ∀ b, b ≠ 2 → (b < 24 ∨ 37 ≤ b) → c' b = c b) (hm : ∀ i, 192 ≤ i → m' 1 i = m 1 i) (h6 : m' 0 6 = m 0 6) (h7 : m' 0 7 = m 0 7) (h8 : m' 0 8 = m 0 8) (hb : ∀ b, 3 ≤ b → b ≤ 7 → m' b = m b) : Core n B cap c' m' := by
  obtain ⟨q1, q2, q3, q4, q5, q6, q8, q9, q10, q11⟩ := h
  have E : ∀ lo hi, 192 ≤ lo → Ea lo hi m m' := fun lo hi h i h1 h2 => hm i (by omega)
  have K := q4.ck0 hB (hm 320 (by omega))
  exact ⟨hT, q2.cg (by rw [hc 3 (by decide) (by decide)]) (hc 4 (by decide) (by decide)) (hc 5 (by decide) (by decide)) (E _ _ (by omega)) (hm 344 (by omega)), q3.cg (hc 3 (by decide) (by decide)) (hc 6 (by decide) (by decide)) K (E _ _ (by omega)),
    q4.cg (fun k hk => hc _ (by omega) (by omega)) (by rw [hc 7 (by decide) (by decide)]) K (E _ _ (by omega)), q5.cg (fun k hk => hc _ (by omega) (by omega)) (by rw [hc 15 (by decide) (by decide)]) K (E _ _ (by omega)),
    q6.cg (fun k hk => hc _ (by omega) (by omega)) (fun k hk => hc _ (by omega) (by omega)) (E _ _ (by omega)), q8.cg (hc 0 (by decide) (by decide)) (E _ _ (by omega)),
    q9.cg (Nat.le_refl _) (by rw [hc 37 (by decide) (by decide)]) (hc 38 (by decide) (by decide)) (hc 39 (by decide) (by decide)) h6 h7 (hb 3 (by decide) (by decide)) (hb 4 (by decide) (by decide)) (hb 5 (by decide) (by decide)),
    q10.cg (Nat.le_refl _) (hc 40 (by decide) (by decide)) (hc 41 (by decide) (by decide)) (hc 42 (by decide) (by decide)) (hc 43 (by decide) (by decide)) h8 (hb 6 (by decide) (by decide)) (hb 7 (by decide) (by decide)), q11.cg (E _ _ (by omega)) (E _ _ (by omega))⟩
/-- a page comes -/
theorem Core.putP {n B cap k g l f d to ri : Nat} {c m c' m' : Mm} (h : Core n B cap c m) (hB : B + 1 < 2 ^ 30) (hk : k < 6) (hg : g < 3) (hl : l < 3) (hf : f < 512) (hfl : f % 8 ^ l = 0) (hd : d < 2) (hto : to < 1000) (hri : ri < 16) (held : ∃ s, s < 6 ∧ m 1 (332 + s) = nI g) (pc : PutC 9 7 k (nI g) (nI l) (nI f) (nI to) (nI ri) (nI d) c c') (pm : PutM 192 k (nI g) (nI l) (nI f) (nI to) (nI ri) (nI d) m m') (hu : ∀ j, j < 6 → j ≠ k → c (9 + j) 0 = 1 → m 1 (192 + 7 * j) = nI g → m 1 (192 + 7 * j + 1) = nI l → m 1 (192 + 7 * j + 2) = nI f → False) : Core n (B + 1) cap c' m' := by
  obtain ⟨q1, q2, q3, q4, q5, q6, q8, q9, q10, q11⟩ := h
  have T4 := put_rel q4 hB (by decide) (by decide) hk hg hl hf hfl hd pc pm hu
  obtain ⟨c1, c2, c3, c4, c5, c6, c7, c8, c9, co⟩ := pc
  obtain ⟨m1, m2, m3, m4, m5, m6, m7, m8, mo, mz⟩ := pm
  have hc : ∀ b, b ≠ 7 → b ≠ 9 + k → c' b = c b := co
  have E : ∀ lo hi, hi ≤ 192 ∨ (234 ≤ lo ∧ hi ≤ 320) ∨ 321 ≤ lo → Ea lo hi m m' := fun lo hi h i h1 h2 => mo i (by omega) (by omega)
  have K := q4.ck1 (m' := m') hB m1
  have mj : ∀ j, j < 6 → j ≠ k → ∀ i, i < 7 → m' 1 (192 + 7 * j + i) = m 1 (192 + 7 * j + i) := fun j hj h i hi => mo _ (by omega) (by omega)
  refine ⟨q1.cg (hc 1 (by omega) (by omega)) (hc 2 (by omega) (by omega)) (E _ _ (by omega)), q2.cg (by rw [hc 3 (by omega) (by omega)]) (hc 4 (by omega) (by omega)) (hc 5 (by omega) (by omega)) (E _ _ (by omega)) (mo 344 (by omega) (by omega)), q3.cg (hc 3 (by omega) (by omega)) (hc 6 (by omega) (by omega)) K (E _ _ (by omega)),
    T4, q5.cg (fun j hj => hc _ (by omega) (by omega)) (by rw [hc 15 (by omega) (by omega)]) K (E _ _ (by omega)), ⟨fun j hj h => ?_, fun j hj => ?_⟩, q8.cg (hc 0 (by omega) (by omega)) (E _ _ (by omega)),
    q9.cg (Nat.le_refl _) (by rw [hc 37 (by omega) (by omega)]) (hc 38 (by omega) (by omega)) (hc 39 (by omega) (by omega)) (by rw [mz 0 (by decide)]) (by rw [mz 0 (by decide)]) (mz 3 (by decide)) (mz 4 (by decide)) (mz 5 (by decide)),
    q10.cg (Nat.le_refl _) (hc 40 (by omega) (by omega)) (hc 41 (by omega) (by omega)) (hc 42 (by omega) (by omega)) (hc 43 (by omega) (by omega)) (by rw [mz 0 (by decide)]) (mz 6 (by decide)) (mz 7 (by decide)), ⟨fun j hj h => ?_, fun j hj => ?_, fun j hj => ?_⟩⟩
  · by_cases e : j = k
    · subst e
      rw [m5, m6]
      exact ⟨⟨to, hto, rfl⟩, ⟨ri, hri, rfl⟩⟩
    · rw [mj j hj e 3 (by decide), mj j hj e 4 (by decide)]
      rw [hc (9 + j) (by omega) (by omega)] at h
      exact q6.1 j hj h
  · rw [hc (17 + j) (by omega) (by omega), mo _ (by omega) (by omega), mo _ (by omega) (by omega), mo _ (by omega) (by omega)]
    exact q6.2 j hj
  · by_cases e : j = k
    · subst e
      obtain ⟨s, hs, es⟩ := held
      exact ⟨s, hs, by rw [m2, mo _ (by omega) (by omega)]; exact es⟩
    · have e0 := mj j hj e 0 (by decide)
      rw [Nat.add_zero] at e0
      rw [e0] at h ⊢
      obtain ⟨s, hs, es⟩ := q11.1 j hj h
      exact ⟨s, hs, by rw [mo _ (by omega) (by omega)]; exact es⟩
  · intro h
    rw [mo _ (by omega) (by omega)] at h ⊢
    obtain ⟨s, hs, es⟩ := q11.2.1 j hj h
    exact ⟨s, hs, by rw [mo _ (by omega) (by omega)]; exact es⟩
  · intro h
    rw [mo _ (by omega) (by omega)] at h
    rw [mo _ (by omega) (by omega)]
    obtain ⟨s, hs, es⟩ := q11.2.2 j hj h
    exact ⟨s, hs, by rw [mo _ (by omega) (by omega)]; exact es⟩
/-- an entry that leads to a table comes -/
theorem Core.putU {n B cap k g l f to ri : Nat} {c m c' m' : Mm} (h : Core n B cap c m) (hB : B + 1 < 2 ^ 30) (hk : k < 6) (hg : g < 3) (hl : l < 3) (hl0 : 0 < l) (hf : f < 512) (hfl : f % 8 ^ l = 0) (hto : to < 12) (hri : ri < 8) (held : ∃ s, s < 6 ∧ m 1 (332 + s) = nI g) (pc : PutC 17 15 k (nI g) (nI l) (nI f) (nI to) (nI ri) (nI 0) c c') (pm : PutM 234 k (nI g) (nI l) (nI f) (nI to) (nI ri) (nI 0) m m') (hu : ∀ j, j < 6 → j ≠ k → c (17 + j) 0 = 1 → m 1 (234 + 7 * j) = nI g → m 1 (234 + 7 * j + 1) = nI l → m 1 (234 + 7 * j + 2) = nI f → False) : Core n (B + 1) cap c' m' := by
  obtain ⟨q1, q2, q3, q4, q5, q6, q8, q9, q10, q11⟩ := h
  have T5 := put_rel q5 hB (by decide) (by decide) hk hg hl hf hfl (by decide) pc pm hu
  obtain ⟨c1, c2, c3, c4, c5, c6, c7, c8, c9, co⟩ := pc
  obtain ⟨m1, m2, m3, m4, m5, m6, m7, m8, mo, mz⟩ := pm
  have hc : ∀ b, b ≠ 15 → b ≠ 17 + k → c' b = c b := co
  have E : ∀ lo hi, hi ≤ 234 ∨ (276 ≤ lo ∧ hi ≤ 320) ∨ 321 ≤ lo → Ea lo hi m m' := fun lo hi h i h1 h2 => mo i (by omega) (by omega)
  have K := q4.ck1 (m' := m') hB m1
  have mj : ∀ j, j < 6 → j ≠ k → ∀ i, i < 7 → m' 1 (234 + 7 * j + i) = m 1 (234 + 7 * j + i) := fun j hj h i hi => mo _ (by omega) (by omega)
  refine ⟨q1.cg (hc 1 (by omega) (by omega)) (hc 2 (by omega) (by omega)) (E _ _ (by omega)), q2.cg (by rw [hc 3 (by omega) (by omega)]) (hc 4 (by omega) (by omega)) (hc 5 (by omega) (by omega)) (E _ _ (by omega)) (mo 344 (by omega) (by omega)), q3.cg (hc 3 (by omega) (by omega)) (hc 6 (by omega) (by omega)) K (E _ _ (by omega)),
    q4.cg (fun j hj => hc _ (by omega) (by omega)) (by rw [hc 7 (by omega) (by omega)]) K (E _ _ (by omega)), T5, ⟨fun j hj => ?_, fun j hj h => ?_⟩, q8.cg (hc 0 (by omega) (by omega)) (E _ _ (by omega)),
    q9.cg (Nat.le_refl _) (by rw [hc 37 (by omega) (by omega)]) (hc 38 (by omega) (by omega)) (hc 39 (by omega) (by omega)) (by rw [mz 0 (by decide)]) (by rw [mz 0 (by decide)]) (mz 3 (by decide)) (mz 4 (by decide)) (mz 5 (by decide)),
    q10.cg (Nat.le_refl _) (hc 40 (by omega) (by omega)) (hc 41 (by omega) (by omega)) (hc 42 (by omega) (by omega)) (hc 43 (by omega) (by omega)) (by rw [mz 0 (by decide)]) (mz 6 (by decide)) (mz 7 (by decide)), ⟨fun j hj => ?_, fun j hj h => ?_, fun j hj => ?_⟩⟩
  · rw [hc (9 + j) (by omega) (by omega), mo _ (by omega) (by omega), mo _ (by omega) (by omega)]
    exact q6.1 j hj
  · by_cases e : j = k
    · subst e
      rw [m5, m6, m3]
      exact ⟨⟨to, hto, rfl⟩, ⟨ri, hri, rfl⟩, fun z => by
        have := nI_inj (b := 0) (by omega) (by omega) z
        omega⟩
    · rw [mj j hj e 3 (by decide), mj j hj e 4 (by decide), mj j hj e 1 (by decide)]
      rw [hc (17 + j) (by omega) (by omega)] at h
      exact q6.2 j hj h
  · intro h
    rw [mo _ (by omega) (by omega)] at h ⊢
    obtain ⟨s, hs, es⟩ := q11.1 j hj h
    exact ⟨s, hs, by rw [mo _ (by omega) (by omega)]; exact es⟩
  · by_cases e : j = k
    · subst e
      obtain ⟨s, hs, es⟩ := held
      exact ⟨s, hs, by rw [m2, mo _ (by omega) (by omega)]; exact es⟩
    · have e0 := mj j hj e 0 (by decide)
      rw [Nat.add_zero] at e0
      rw [e0] at h ⊢
      obtain ⟨s, hs, es⟩ := q11.2.1 j hj h
      exact ⟨s, hs, by rw [mo _ (by omega) (by omega)]; exact es⟩
  · intro h
    rw [mo _ (by omega) (by omega)] at h
    rw [mo _ (by omega) (by omega)]
    obtain ⟨s, hs, es⟩ := q11.2.2 j hj h
    exact ⟨s, hs, by rw [mo _ (by omega) (by omega)]; exact es⟩
theorem Core.le {n B B' cap : Nat} {c m : Mm} (h : Core n B cap c m) (hB : B ≤ B') : Core n B' cap c m := by
  obtain ⟨q1, q2, q3, q4, q5, q6, q8, q9, q10, q11⟩ := h
  refine ⟨q1, q2, ?_, q4.le hB, q5.le hB, q6, q8, q9, q10, q11⟩
  obtain ⟨x, y, kc, km, r1, r2, r3, r4, r5⟩ := q3
  exact ⟨x, y, kc, km, r1, r2, r3, by omega, r5⟩
/-- what one entry of a walk may change -/
def FrC (w : Nat) (c c' : Mm) : Prop := ∀ b, b ≠ 2 → b ≠ 7 → b < 9 ∨ 15 ≤ b → b ≠ 15 → b < 17 ∨ 23 ≤ b → b ≠ w → b ≠ w + 1 → c' b = c b
def FrM (m m' : Mm) : Prop := (∀ i, i < 96 → m' 1 i = m 1 i) ∧ (∀ i, 276 ≤ i → i ≠ 320 → m' 1 i = m 1 i) ∧ (∀ b, 2 ≤ b → m' b = m b) ∧ ∀ i, i < 11 ∨ 17 ≤ i → m' 0 i = m 0 i
theorem FrC.tr {w : Nat} {c d e : Mm} (h : FrC w c d) (g : FrC w d e) : FrC w c e := fun b h1 h2 h3 h4 h5 h6 h7 => (g b h1 h2 h3 h4 h5 h6 h7).trans (h b h1 h2 h3 h4 h5 h6 h7)
theorem FrM.tr {c d e : Mm} (h : FrM c d) (g : FrM d e) : FrM c e := ⟨fun i hi => (g.1 i hi).trans (h.1 i hi), fun i hi h2 => (g.2.1 i hi h2).trans (h.2.1 i hi h2), fun b hb => (g.2.2.1 b hb).trans (h.2.2.1 b hb), fun i hi => (g.2.2.2 i hi).trans (h.2.2.2 i hi)⟩
/-- a walk that is going, on both sides -/
def WS (w a wa g tg l t r : Nat) (c m : Mm) : Prop := c w 0 = 1 ∧ c w 1 = nI a ∧ c w 2 = nI wa ∧ c w 3 = nI g ∧ c w 4 = nI tg ∧ c w 5 = nI l ∧ c w 6 = nI t ∧ c w 7 = nI r ∧ m 0 11 = nI l ∧ m 0 12 = nI t ∧ m 0 13 = nI r ∧ m 0 16 = 0 ∧ a < 512 ∧ wa < 8 ∧ g < 2 ∧ tg < 3 ∧ l < 3 ∧ t < 12 ∧ r < 8
/-- what an entry comes to -/
def Out (w l : Nat) (c m : Mm) (ρ : Int32) : Prop := (ρ = 1 ∧ 0 < l ∧ c w 0 = 1 ∧ m 0 16 = 0 ∧ ∃ t r, t < 12 ∧ r < 8 ∧ c w 5 = nI (l - 1) ∧ m 0 11 = nI (l - 1) ∧ c w 6 = nI t ∧ m 0 12 = nI t ∧ c w 7 = nI r ∧ m 0 13 = nI r) ∨ (ρ = 0 ∧ c w 0 = 2 ∧ m 0 16 = 0 ∧ c w 9 = m 0 15 ∧ Vk 1100 (m 0 15)) ∨ (ρ = 0 ∧ c w 0 = 3 ∧ (m 0 16 = 2 ∨ m 0 16 = 3 ∨ m 0 16 = 4) ∧ c w 9 = m 0 16)
