/-! PURE: what comes to a cache; bounds by a number of ticks -/
def RPB (B b q a : Nat) (c m : Mm) : Prop := ∃ (x y : Nat → Nat) (kc km : Nat), c q 1 = nI kc ∧ kc ≤ B ∧ m 1 320 = nI km ∧ km ≤ B ∧
  (∀ k, k < 6 → (RPf (b + k) (a + 7 * k) c m ∧ c (b + k) 7 = nI (x k) ∧ m 1 (a + 7 * k + 6) = nI (y k) ∧ x k ≤ kc ∧ y k ≤ km) ∨ (c (b + k) 0 = 0 ∧ m 1 (a + 7 * k) = -1)) ∧
  (∀ j k, j < 6 → k < 6 → c (b + j) 0 = 1 → c (b + k) 0 = 1 → ((x j < x k ↔ y j < y k) ∧ (x j = x k → j = k))) ∧
  (∀ j k, j < 6 → k < 6 → c (b + j) 0 = 1 → c (b + k) 0 = 1 → m 1 (a + 7 * j) = m 1 (a + 7 * k) → m 1 (a + 7 * j + 1) = m 1 (a + 7 * k + 1) → m 1 (a + 7 * j + 2) = m 1 (a + 7 * k + 2) → j = k)
theorem RP.B {n b q a : Nat} {c m : Mm} : RP n b q a c m ↔ RPB (16 * n) b q a c m := Iff.rfl
def RCB (n B : Nat) (c m : Mm) : Prop := ∃ (x y : Nat → Nat) (kc km : Nat), c 3 3 = nI kc ∧ kc ≤ n ∧ m 1 320 = nI km ∧ km ≤ B ∧ (∀ s, s < 6 → c 6 s = nI (x s) ∧ m 1 (338 + s) = nI (y s) ∧ x s ≤ kc ∧ y s ≤ km) ∧ (∀ s t, s < 6 → t < 6 → m 1 (332 + s) ≠ -1 → m 1 (332 + t) ≠ -1 → m 1 344 ≠ nI s → m 1 344 ≠ nI t → (x s < x t ↔ y s < y t))
theorem RC.B {n : Nat} {c m : Mm} : RC n c m ↔ RCB n (16 * n) c m := Iff.rfl
/-- the clock has gone from m to m' -/
def CkB (B B' : Nat) (m m' : Mm) : Prop := B ≤ B' ∧ B' < 2 ^ 30 ∧ ∃ km km' : Nat, m 1 320 = nI km ∧ km ≤ B ∧ m' 1 320 = nI km' ∧ km ≤ km' ∧ km' ≤ B'
theorem RPB.ck1 {B b q a : Nat} {c m m' : Mm} (h : RPB B b q a c m) (hB : B + 1 < 2 ^ 30) (e : m' 1 320 = m 1 320 + 1) : CkB B (B + 1) m m' := by
  obtain ⟨x, y, kc, km, r1, r2, r3, r4, -⟩ := h
  exact ⟨by omega, hB, km, km + 1, r3, r4, by rw [e, r3, na1], by omega, by omega⟩
theorem RPB.ck0 {B b q a : Nat} {c m m' : Mm} (h : RPB B b q a c m) (hB : B < 2 ^ 30) (e : m' 1 320 = m 1 320) : CkB B B m m' := by
  obtain ⟨x, y, kc, km, r1, r2, r3, r4, -⟩ := h
  exact ⟨by omega, hB, km, km, r3, r4, by rw [e, r3], by omega, by omega⟩
theorem RCB.cg {n B B' : Nat} {c m c' m' : Mm} (h : RCB n B c m) (h3 : c' 3 = c 3) (h6 : c' 6 = c 6) (k : CkB B B' m m') (e : Ea 332 345 m m') : RCB n B' c' m' := by
  obtain ⟨x, y, kc, km, r1, r2, r3, r4, r5, r6⟩ := h
  obtain ⟨hn, hn2, k1, k2, q1, q0, q2, q3, q4⟩ := k
  have e1 : km = k1 := nI_inj (by omega) (by omega) (r3.symm.trans q1)
  refine ⟨x, y, kc, k2, by rw [h3]; exact r1, by omega, q2, by omega, fun s hs => ?_, fun s t hs ht => ?_⟩
  · obtain ⟨a1, a2, a3, a4⟩ := r5 s hs
    rw [h6, e (338 + s) (by omega) (by omega)]
    exact ⟨a1, a2, a3, by omega⟩
  · rw [e (332 + s) (by omega) (by omega), e (332 + t) (by omega) (by omega), e 344 (by omega) (by omega)]
    exact r6 s t hs ht
theorem RPB.cg {B B' b q a : Nat} {c m c' m' : Mm} (h : RPB B b q a c m) (hb : ∀ k, k < 6 → c' (b + k) = c (b + k)) (hq : c' q 1 = c q 1) (k : CkB B B' m m') (e : Ea a (a + 42) m m') : RPB B' b q a c' m' := by
  obtain ⟨x, y, kc, km, r1, r2, r3, r4, r5, r6, r7⟩ := h
  obtain ⟨hn, hn2, k1, k2, q1, q0, q2, q3, q4⟩ := k
  have e1 : km = k1 := nI_inj (by omega) (by omega) (r3.symm.trans q1)
  refine ⟨x, y, kc, k2, by rw [hq]; exact r1, by omega, q2, by omega, fun k hk => ?_, fun j k hj hk => ?_, fun j k hj hk => ?_⟩
  · rcases r5 k hk with ⟨a1, a2, a3, a4, a5⟩ | ⟨a1, a2⟩
    · refine Or.inl ⟨?_, by rw [hb k hk]; exact a2, by rw [e (a + 7 * k + 6) (by omega) (by omega)]; exact a3, a4, by omega⟩
      unfold RPf at a1 ⊢
      rw [hb k hk, e (a + 7 * k) (by omega) (by omega), e (a + 7 * k + 1) (by omega) (by omega), e (a + 7 * k + 2) (by omega) (by omega), e (a + 7 * k + 3) (by omega) (by omega), e (a + 7 * k + 4) (by omega) (by omega), e (a + 7 * k + 5) (by omega) (by omega)]
      exact a1
    · refine Or.inr ⟨by rw [hb k hk]; exact a1, by rw [e (a + 7 * k) (by omega) (by omega)]; exact a2⟩
  · rw [hb j hj, hb k hk]; exact r6 j k hj hk
  · rw [hb j hj, hb k hk, e (a + 7 * k) (by omega) (by omega), e (a + 7 * k + 1) (by omega) (by omega), e (a + 7 * k + 2) (by omega) (by omega), e (a + 7 * j) (by omega) (by omega), e (a + 7 * j + 1) (by omega) (by omega), e (a + 7 * j + 2) (by omega) (by omega)]
    exact r7 j k hj hk
/-- a place is written -/
def PutC (b q k : Nat) (tg l f to ri di : Int32) (c c' : Mm) : Prop := c' q 1 = c q 1 + 1 ∧ c' (b + k) 0 = 1 ∧ c' (b + k) 1 = tg ∧ c' (b + k) 2 = l ∧ c' (b + k) 3 = f ∧ c' (b + k) 4 = to ∧ c' (b + k) 5 = ri ∧ c' (b + k) 6 = di ∧ c' (b + k) 7 = c q 1 + 1 ∧ ∀ z, z ≠ q → z ≠ b + k → c' z = c z
def PutM (a k : Nat) (tg l f to ri di : Int32) (m m' : Mm) : Prop := m' 1 320 = m 1 320 + 1 ∧ m' 1 (a + 7 * k) = tg ∧ m' 1 (a + 7 * k + 1) = l ∧ m' 1 (a + 7 * k + 2) = f ∧ m' 1 (a + 7 * k + 3) = to ∧ m' 1 (a + 7 * k + 4) = ri ∧ m' 1 (a + 7 * k + 5) = di ∧ m' 1 (a + 7 * k + 6) = m 1 320 + 1 ∧ (∀ i, i ≠ 320 → (i < a + 7 * k ∨ a + 7 * k + 7 ≤ i) → m' 1 i = m 1 i) ∧ ∀ z, z ≠ 1 → m' z = m z
theorem put_rel {B b q a k : Nat} {c m c' m' : Mm} {g l f d : Nat} {to ri : Int32} (h : RPB B b q a c m) (hB : B + 1 < 2 ^ 30) (ha : a + 42 ≤ 320) (hq : q < b) (hk : k < 6) (hg : g < 3) (hl : l < 3) (hf : f < 512) (hfl : f % 8 ^ l = 0) (hd : d < 2) (pc : PutC b q k (nI g) (nI l) (nI f) to ri (nI d) c c') (pm : PutM a k (nI g) (nI l) (nI f) to ri (nI d) m m') (hu : ∀ j, j < 6 → j ≠ k → c (b + j) 0 = 1 → m 1 (a + 7 * j) = nI g → m 1 (a + 7 * j + 1) = nI l → m 1 (a + 7 * j + 2) = nI f → False) : RPB (B + 1) b q a c' m' := by
  obtain ⟨x, y, kc, km, r1, r2, r3, r4, r5, r6, r7⟩ := h
  obtain ⟨c1, c2, c3, c4, c5, c6, c7, c8, c9, co⟩ := pc
  obtain ⟨m1, m2, m3, m4, m5, m6, m7, m8, mo, -⟩ := pm
  rw [r1, na1] at c1 c9
  rw [r3, na1] at m1 m8
  have cj : ∀ j, j < 6 → j ≠ k → c' (b + j) = c (b + j) := fun j hj h => co _ (by omega) (by omega)
  have mj : ∀ j, j < 6 → j ≠ k → ∀ i, i < 7 → m' 1 (a + 7 * j + i) = m 1 (a + 7 * j + i) := fun j hj h i hi => mo _ (by omega) (by omega)
  have fl : ∀ j, j < 6 → c (b + j) 0 = 1 → x j ≤ kc ∧ y j ≤ km := fun j hj h => by
    rcases r5 j hj with ⟨-, -, -, a4, a5⟩ | ⟨a1, -⟩
    · exact ⟨a4, a5⟩
    · rw [a1] at h; exact absurd h (by decide)
  refine ⟨fun j => if j = k then kc + 1 else x j, fun j => if j = k then km + 1 else y j, kc + 1, km + 1, c1, by omega, m1, by omega, fun j hj => ?_, fun i j hi hj h1 h2 => ?_, fun i j hi hj h1 h2 e1 e2 e3 => ?_⟩
  · by_cases e : j = k
    · subst e
      left
      simp only [if_true]
      refine ⟨⟨c2, ⟨g, hg, m2⟩, by rw [c3, m2], by rw [c4, m3], by rw [c5, m4], by rw [c6, m5], by rw [c7, m6], by rw [c8, m7], ⟨l, f, hl, hf, m3, m4, hfl⟩, ⟨d, hd, m7⟩⟩, c9, m8, by omega, by omega⟩
    · have e0 := mj j hj e 0 (by decide)
      rw [Nat.add_zero] at e0
      simp only [e, if_false]
      rcases r5 j hj with ⟨a1, a2, a3, a4, a5⟩ | ⟨a1, a2⟩
      · refine Or.inl ⟨?_, by rw [cj j hj e]; exact a2, by rw [mj j hj e 6 (by decide)]; exact a3, by omega, by omega⟩
        unfold RPf at a1 ⊢
        rw [cj j hj e, e0, mj j hj e 1 (by decide), mj j hj e 2 (by decide), mj j hj e 3 (by decide), mj j hj e 4 (by decide), mj j hj e 5 (by decide)]
        exact a1
      · exact Or.inr ⟨by rw [cj j hj e]; exact a1, by rw [e0]; exact a2⟩
  · by_cases ei : i = k
    · by_cases ej : j = k
      · simp only [ei, ej, if_true]
        exact ⟨by omega, fun _ => trivial⟩
      · rw [cj j hj ej] at h2
        obtain ⟨z1, z2⟩ := fl j hj h2
        simp only [ei, ej, if_true, if_false]
        exact ⟨by omega, fun h => by omega⟩
    · rw [cj i hi ei] at h1
      obtain ⟨z1, z2⟩ := fl i hi h1
      by_cases ej : j = k
      · simp only [ei, ej, if_true, if_false]
        exact ⟨by omega, fun h => by omega⟩
      · rw [cj j hj ej] at h2
        simp only [ei, ej, if_false]
        exact r6 i j hi hj h1 h2
  · by_cases ei : i = k
    · by_cases ej : j = k
      · rw [ei, ej]
      · rw [cj j hj ej] at h2
        have e0 := mj j hj ej 0 (by decide)
        rw [Nat.add_zero] at e0
        subst ei
        rw [m2, e0] at e1
        rw [m3, mj j hj ej 1 (by decide)] at e2
        rw [m4, mj j hj ej 2 (by decide)] at e3
        exact (hu j hj ej h2 e1.symm e2.symm e3.symm).elim
    · rw [cj i hi ei] at h1
      have e0 := mj i hi ei 0 (by decide)
      rw [Nat.add_zero] at e0
      by_cases ej : j = k
      · subst ej
        rw [m2, e0] at e1
        rw [m3, mj i hi ei 1 (by decide)] at e2
        rw [m4, mj i hi ei 2 (by decide)] at e3
        exact (hu i hi ei h1 e1 e2 e3).elim
      · rw [cj j hj ej] at h2
        have f0 := mj j hj ej 0 (by decide)
        rw [Nat.add_zero] at f0
        rw [e0, f0] at e1
        rw [mj i hi ei 1 (by decide), mj j hj ej 1 (by decide)] at e2
        rw [mj i hi ei 2 (by decide), mj j hj ej 2 (by decide)] at e3
        exact r7 i j hi hj h1 h2 e1 e2 e3
/-- a place is used -/
theorem touch_rel {B b q a k : Nat} {c m c' m' : Mm} (h : RPB B b q a c m) (hB : B + 1 < 2 ^ 30) (ha : a + 42 ≤ 320) (hq : q < b) (hk : k < 6) (hf : c (b + k) 0 = 1)
  (c1 : c' q 1 = c q 1 + 1) (c7 : c' (b + k) 7 = c q 1 + 1) (ci : ∀ i, i ≠ 7 → c' (b + k) i = c (b + k) i) (co : ∀ z, z ≠ q → z ≠ b + k → c' z = c z)
  (m1 : m' 1 320 = m 1 320 + 1) (m6 : m' 1 (a + 7 * k + 6) = m 1 320 + 1) (mo : ∀ i, i ≠ 320 → i ≠ a + 7 * k + 6 → m' 1 i = m 1 i) (mz : ∀ z, z ≠ 1 → m' z = m z) : RPB (B + 1) b q a c' m' := by
  obtain ⟨x, y, kc, km, r1, r2, r3, r4, r5, r6, r7⟩ := id h
  rcases r5 k hk with ⟨⟨-, ⟨g, hg, p1⟩, p2, p3, p4, p5, p6, p7, ⟨l, f, hl, hf5, p8, p9, p10⟩, ⟨d, hd, p11⟩⟩, -⟩ | ⟨a1, -⟩
  · refine put_rel (k := k) (g := g) (l := l) (f := f) (d := d) (to := m 1 (a + 7 * k + 3)) (ri := m 1 (a + 7 * k + 4)) h hB ha hq hk hg hl hf5 p10 hd ⟨c1, ?_, ?_, ?_, ?_, ?_, ?_, ?_, c7, co⟩ ⟨m1, ?_, ?_, ?_, ?_, ?_, ?_, m6, fun i h1 h2 => mo i h1 (by omega), mz⟩ (fun j hj hjk h1 h2 h3 h4 => hjk (r7 j k hj hk h1 hf (by rw [h2, p1]) (by rw [h3, p8]) (by rw [h4, p9])))
    · rw [ci 0 (by decide), hf]
    · rw [ci 1 (by decide), p2, p1]
    · rw [ci 2 (by decide), p3, p8]
    · rw [ci 3 (by decide), p4, p9]
    · rw [ci 4 (by decide), p5]
    · rw [ci 5 (by decide), p6]
    · rw [ci 6 (by decide), p7, p11]
    · rw [mo _ (by omega) (by omega), p1]
    · rw [mo _ (by omega) (by omega), p8]
    · rw [mo _ (by omega) (by omega), p9]
    · rw [mo _ (by omega) (by omega)]
    · rw [mo _ (by omega) (by omega)]
    · rw [mo _ (by omega) (by omega), p11]
  · rw [a1] at hf; exact absurd hf (by decide)
