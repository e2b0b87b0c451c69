/-! PURE: places are cleared, walkers are aborted -/
def dC (b0 : Nat) (P : Nat → Bool) (K : Nat) (c : Mm) : Mm := fun b i => if i = 0 ∧ b0 ≤ b ∧ b < b0 + K ∧ P (b - b0) = true then 0 else c b i
def dM (a : Nat) (P : Nat → Bool) (K : Nat) (m : Mm) : Mm := fun b i => if b = 1 ∧ a ≤ i ∧ i < a + 7 * K ∧ (i - a) % 7 = 0 ∧ P ((i - a) / 7) = true then -1 else m b i
def aC (Q : Nat → Bool) (K : Nat) (c : Mm) : Mm := fun b i => if i = 0 ∧ 24 ≤ b ∧ b < 24 + 2 * K ∧ (b - 24) % 2 = 0 ∧ Q ((b - 24) / 2) = true then 4 else c b i
def aM (Q : Nat → Bool) (K : Nat) (m : Mm) : Mm := fun b i => if b = 1 ∧ 276 ≤ i ∧ i < 276 + 11 * K ∧ (i - 276) % 11 = 0 ∧ Q ((i - 276) / 11) = true then 4 else m b i
theorem dC_0 (b0 : Nat) (P : Nat → Bool) (c : Mm) : dC b0 P 0 c = c := by
  funext b i
  unfold dC
  rw [if_neg (by omega)]
theorem dM_0 (a : Nat) (P : Nat → Bool) (m : Mm) : dM a P 0 m = m := by
  funext b i
  unfold dM
  rw [if_neg (by omega)]
theorem aC_0 (P : Nat → Bool) (c : Mm) : aC P 0 c = c := by
  funext b i
  unfold aC
  rw [if_neg (by omega)]
theorem aM_0 (P : Nat → Bool) (m : Mm) : aM P 0 m = m := by
  funext b i
  unfold aM
  rw [if_neg (by omega)]
theorem dC_out {b0 K b : Nat} {P : Nat → Bool} {c : Mm} (h : b < b0 ∨ b0 + K ≤ b) : dC b0 P K c b = c b := by
  funext i
  unfold dC
  rw [if_neg (by omega)]
theorem dC_i {b0 K b i : Nat} {P : Nat → Bool} {c : Mm} (h : i ≠ 0) : dC b0 P K c b i = c b i := by
  unfold dC
  rw [if_neg (by omega)]
theorem dC_at {b0 K k : Nat} {P : Nat → Bool} {c : Mm} (h : k < K) : dC b0 P K c (b0 + k) 0 = if P k = true then 0 else c (b0 + k) 0 := by
  unfold dC
  rw [show b0 + k - b0 = k by omega]
  by_cases hp : P k = true
  · rw [if_pos ⟨rfl, by omega, by omega, hp⟩, if_pos hp]
  · rw [if_neg (fun h => hp h.2.2.2), if_neg hp]
theorem dM_b {a K b : Nat} {P : Nat → Bool} {m : Mm} (h : b ≠ 1) : dM a P K m b = m b := by
  funext i
  unfold dM
  rw [if_neg (by omega)]
theorem dM_out {a K i : Nat} {P : Nat → Bool} {m : Mm} (h : i < a ∨ a + 7 * K ≤ i) : dM a P K m 1 i = m 1 i := by
  unfold dM
  rw [if_neg (by omega)]
theorem dM_i {a K k j : Nat} {P : Nat → Bool} {m : Mm} (h : 1 ≤ j) (h2 : j < 7) : dM a P K m 1 (a + 7 * k + j) = m 1 (a + 7 * k + j) := by
  unfold dM
  rw [if_neg (by omega)]
theorem dM_at {a K k : Nat} {P : Nat → Bool} {m : Mm} (h : k < K) : dM a P K m 1 (a + 7 * k) = if P k = true then -1 else m 1 (a + 7 * k) := by
  unfold dM
  rw [show (a + 7 * k - a) / 7 = k by omega]
  by_cases hp : P k = true
  · rw [if_pos ⟨rfl, by omega, by omega, by omega, hp⟩, if_pos hp]
  · rw [if_neg (fun h => hp h.2.2.2.2), if_neg hp]
theorem aC_out {K b : Nat} {P : Nat → Bool} {c : Mm} (h : b < 24 ∨ 24 + 2 * K ≤ b ∨ b % 2 = 1) : aC P K c b = c b := by
  funext i
  unfold aC
  rw [if_neg (by omega)]
theorem aC_i {K b i : Nat} {P : Nat → Bool} {c : Mm} (h : i ≠ 0) : aC P K c b i = c b i := by
  unfold aC
  rw [if_neg (by omega)]
theorem aC_at {K k : Nat} {P : Nat → Bool} {c : Mm} (h : k < K) : aC P K c (24 + 2 * k) 0 = if P k = true then 4 else c (24 + 2 * k) 0 := by
  unfold aC
  rw [show (24 + 2 * k - 24) / 2 = k by omega]
  by_cases hp : P k = true
  · rw [if_pos ⟨rfl, by omega, by omega, by omega, hp⟩, if_pos hp]
  · rw [if_neg (fun h => hp h.2.2.2.2), if_neg hp]
theorem aM_b {K b : Nat} {P : Nat → Bool} {m : Mm} (h : b ≠ 1) : aM P K m b = m b := by
  funext i
  unfold aM
  rw [if_neg (by omega)]
theorem aM_out {K i : Nat} {P : Nat → Bool} {m : Mm} (h : i < 276 ∨ 276 + 11 * K ≤ i) : aM P K m 1 i = m 1 i := by
  unfold aM
  rw [if_neg (by omega)]
theorem aM_i {K k j : Nat} {P : Nat → Bool} {m : Mm} (h : 1 ≤ j) (h2 : j < 11) : aM P K m 1 (276 + 11 * k + j) = m 1 (276 + 11 * k + j) := by
  unfold aM
  rw [if_neg (by omega)]
theorem aM_at {K k : Nat} {P : Nat → Bool} {m : Mm} (h : k < K) : aM P K m 1 (276 + 11 * k) = if P k = true then 4 else m 1 (276 + 11 * k) := by
  unfold aM
  rw [show (276 + 11 * k - 276) / 11 = k by omega]
  by_cases hp : P k = true
  · rw [if_pos ⟨rfl, by omega, by omega, by omega, hp⟩, if_pos hp]
  · rw [if_neg (fun h => hp h.2.2.2.2), if_neg hp]
theorem dC_no {b0 k : Nat} {P : Nat → Bool} {c : Mm} (h : P k = false) : dC b0 P k c = dC b0 P (k + 1) c := by
  funext b i
  unfold dC
  by_cases e : b = b0 + k
  · rw [if_neg (by omega), if_neg]
    intro h2
    have := h2.2.2.2
    rw [e, show b0 + k - b0 = k by omega, h] at this
    cases this
  · by_cases h2 : i = 0 ∧ b0 ≤ b ∧ b < b0 + k ∧ P (b - b0) = true
    · rw [if_pos h2, if_pos ⟨h2.1, h2.2.1, by omega, h2.2.2.2⟩]
    · rw [if_neg h2, if_neg (fun h3 => h2 ⟨h3.1, h3.2.1, by omega, h3.2.2.2⟩)]
theorem dC_yes {b0 k : Nat} {P : Nat → Bool} {c : Mm} (h : P k = true) : wr (dC b0 P k c) (b0 + k) 0 0 = dC b0 P (k + 1) c := by
  funext b i
  by_cases e : b = b0 + k
  · subst e
    by_cases h0 : i = 0
    · subst h0
      rw [wr_same, dC_at (by omega), if_pos h]
    · rw [wr_i _ _ _ h0, dC_i h0, dC_i h0]
  · rw [wr_b _ _ _ _ e]
    unfold dC
    by_cases h2 : i = 0 ∧ b0 ≤ b ∧ b < b0 + k ∧ P (b - b0) = true
    · rw [if_pos h2, if_pos ⟨h2.1, h2.2.1, by omega, h2.2.2.2⟩]
    · rw [if_neg h2, if_neg (fun h3 => h2 ⟨h3.1, h3.2.1, by omega, h3.2.2.2⟩)]
theorem dM_no {a k : Nat} {P : Nat → Bool} {m : Mm} (h : P k = false) : dM a P k m = dM a P (k + 1) m := by
  funext b i
  unfold dM
  by_cases h2 : b = 1 ∧ a ≤ i ∧ i < a + 7 * k ∧ (i - a) % 7 = 0 ∧ P ((i - a) / 7) = true
  · rw [if_pos h2, if_pos ⟨h2.1, h2.2.1, by omega, h2.2.2.2⟩]
  · rw [if_neg h2, if_neg]
    intro h3
    apply h2
    refine ⟨h3.1, h3.2.1, ?_, h3.2.2.2⟩
    by_cases e : i < a + 7 * k
    · exact e
    · have : (i - a) / 7 = k := by omega
      rw [this, h] at h3
      cases h3.2.2.2.2
theorem dM_yes {a k : Nat} {P : Nat → Bool} {m : Mm} (h : P k = true) : wr (dM a P k m) 1 (a + 7 * k) (-1) = dM a P (k + 1) m := by
  funext b i
  by_cases e : b = 1
  · subst e
    by_cases h0 : i = a + 7 * k
    · subst h0
      rw [wr_same, dM_at (by omega), if_pos h]
    · rw [wr_i _ _ _ h0]
      unfold dM
      by_cases h2 : 1 = 1 ∧ a ≤ i ∧ i < a + 7 * k ∧ (i - a) % 7 = 0 ∧ P ((i - a) / 7) = true
      · rw [if_pos h2, if_pos ⟨h2.1, h2.2.1, by omega, h2.2.2.2⟩]
      · rw [if_neg h2, if_neg (fun h3 => h2 ⟨h3.1, h3.2.1, by omega, h3.2.2.2⟩)]
  · rw [wr_b _ _ _ _ e, dM_b e, dM_b e]
theorem aC_no {k : Nat} {P : Nat → Bool} {c : Mm} (h : P k = false) : aC P k c = aC P (k + 1) c := by
  funext b i
  unfold aC
  by_cases h2 : i = 0 ∧ 24 ≤ b ∧ b < 24 + 2 * k ∧ (b - 24) % 2 = 0 ∧ P ((b - 24) / 2) = true
  · rw [if_pos h2, if_pos ⟨h2.1, h2.2.1, by omega, h2.2.2.2⟩]
  · rw [if_neg h2, if_neg]
    intro h3
    apply h2
    refine ⟨h3.1, h3.2.1, ?_, h3.2.2.2⟩
    by_cases e : b < 24 + 2 * k
    · exact e
    · have : (b - 24) / 2 = k := by omega
      rw [this, h] at h3
      cases h3.2.2.2.2
theorem aC_yes {k : Nat} {P : Nat → Bool} {c : Mm} (h : P k = true) : wr (aC P k c) (24 + 2 * k) 0 4 = aC P (k + 1) c := by
  funext b i
  by_cases e : b = 24 + 2 * k
  · subst e
    by_cases h0 : i = 0
    · subst h0
      rw [wr_same, aC_at (by omega), if_pos h]
    · rw [wr_i _ _ _ h0, aC_i h0, aC_i h0]
  · rw [wr_b _ _ _ _ e]
    unfold aC
    by_cases h2 : i = 0 ∧ 24 ≤ b ∧ b < 24 + 2 * k ∧ (b - 24) % 2 = 0 ∧ P ((b - 24) / 2) = true
    · rw [if_pos h2, if_pos ⟨h2.1, h2.2.1, by omega, h2.2.2.2⟩]
    · rw [if_neg h2, if_neg (fun h3 => h2 ⟨h3.1, h3.2.1, by omega, h3.2.2.2⟩)]
theorem aM_no {k : Nat} {P : Nat → Bool} {m : Mm} (h : P k = false) : aM P k m = aM P (k + 1) m := by
  funext b i
  unfold aM
  by_cases h2 : b = 1 ∧ 276 ≤ i ∧ i < 276 + 11 * k ∧ (i - 276) % 11 = 0 ∧ P ((i - 276) / 11) = true
  · rw [if_pos h2, if_pos ⟨h2.1, h2.2.1, by omega, h2.2.2.2⟩]
  · rw [if_neg h2, if_neg]
    intro h3
    apply h2
    refine ⟨h3.1, h3.2.1, ?_, h3.2.2.2⟩
    by_cases e : i < 276 + 11 * k
    · exact e
    · have : (i - 276) / 11 = k := by omega
      rw [this, h] at h3
      cases h3.2.2.2.2
theorem aM_yes {k : Nat} {P : Nat → Bool} {m : Mm} (h : P k = true) : wr (aM P k m) 1 (276 + 11 * k) 4 = aM P (k + 1) m := by
  funext b i
  by_cases e : b = 1
  · subst e
    by_cases h0 : i = 276 + 11 * k
    · subst h0
      rw [wr_same, aM_at (by omega), if_pos h]
    · rw [wr_i _ _ _ h0]
      unfold aM
      by_cases h2 : 1 = 1 ∧ 276 ≤ i ∧ i < 276 + 11 * k ∧ (i - 276) % 11 = 0 ∧ P ((i - 276) / 11) = true
      · rw [if_pos h2, if_pos ⟨h2.1, h2.2.1, by omega, h2.2.2.2⟩]
      · rw [if_neg h2, if_neg (fun h3 => h2 ⟨h3.1, h3.2.1, by omega, h3.2.2.2⟩)]
  · rw [wr_b _ _ _ _ e, aM_b e, aM_b e]
theorem wr_id (m : Mm) (b i : Nat) : wr m b i (m b i) = m := by
  funext b' i'
  by_cases e : b' = b
  · subst e
    by_cases e2 : i' = i
    · subst e2
      exact wr_same _ _ _ _
    · exact wr_i _ _ _ e2
  · exact wr_b _ _ _ _ e
/-- goes(p, is) -/
theorem goes_f {m : Mm} {A g : Nat} {is : Int32} (hA : A < 345) (hg : g < 3) (h : m 1 A = nI g) : fX9_goes m (nI A) is = if is = 0 then some (m, 0) else some (wr m 1 A (-1), 1) := by
  unfold fX9_goes fX9_goes_b17 fX9_goes_b37
  rw [emp_f hA hg h]
  simp (disch := omega) only [eq_self, l21, l12, l20, na0, Nat.reduceAdd, wk_eq, lk_eq, lkN_eq, bd_eq, bw_eq, gd_nI, nI_clamp, na1, na2, na3, na4, na5, na6, na7, na8, na9, i192, i234, i276, i326, i332, i338, i96, i0, i8, ge6F, ge6T, ge4F, ge4T, ltz, lez, Nat.one_mul, if_true, if_false, one_ne, one_eq0, zero_eq0, wr0_1, glit320, glit321, glit322, glit323, glit324, glit325, glit344, cl320, cl321, cl322, cl323, cl324, cl325, cl344, wr_id]
theorem goes_e {m : Mm} {A : Nat} {is : Int32} (hA : A < 345) (h : m 1 A = -1) : fX9_goes m (nI A) is = some (m, 0) := by
  unfold fX9_goes fX9_goes_b17 fX9_goes_b37
  rw [emp_t hA h]
  simp (disch := omega) only [eq_self, l21, l12, l20, na0, Nat.reduceAdd, wk_eq, lk_eq, lkN_eq, bd_eq, bw_eq, gd_nI, nI_clamp, na1, na2, na3, na4, na5, na6, na7, na8, na9, i192, i234, i276, i326, i332, i338, i96, i0, i8, ge6F, ge6T, ge4F, ge4T, ltz, lez, Nat.one_mul, if_true, if_false, one_ne, one_eq0, zero_eq0, wr0_1, glit320, glit321, glit322, glit323, glit324, glit325, glit344, cl320, cl321, cl322, cl323, cl324, cl325, cl344, wr_id]
theorem RP.drop {n n' b q a : Nat} {c m c' m' : Mm} (P : Nat → Bool) (h : RP n b q a c m) (hc0 : ∀ k, k < 6 → c' (b + k) 0 = if P k = true then 0 else c (b + k) 0) (hci : ∀ k, k < 6 → ∀ i, i ≠ 0 → c' (b + k) i = c (b + k) i) (hq : c' q 1 = c q 1) (hm0 : ∀ k, k < 6 → m' 1 (a + 7 * k) = if P k = true then -1 else m 1 (a + 7 * k)) (hmi : ∀ k, k < 6 → ∀ i, 1 ≤ i → i < 7 → m' 1 (a + 7 * k + i) = m 1 (a + 7 * k + i)) (K : Ck n n' m m') : RP n' b q a c' m' := by
  obtain ⟨x, y, kc, km, r1, r2, r3, r4, r5, r6, r7⟩ := h
  obtain ⟨hn, hn2, k1, k2, q1, q0, q2, q3, q4⟩ := K
  have e1 : km = k1 := nI_inj (by omega) (by omega) (r3.symm.trans q1)
  have live : ∀ k, k < 6 → c' (b + k) 0 = 1 → P k = false ∧ c (b + k) 0 = 1 := fun k hk h => by
    rw [hc0 k hk] at h
    by_cases hp : P k = true
    · rw [if_pos hp] at h; exact absurd h (by decide)
    · rw [if_neg hp] at h; exact ⟨Bool.eq_false_iff.mpr hp, h⟩
  have tg : ∀ k, k < 6 → P k = false → m' 1 (a + 7 * k) = m 1 (a + 7 * k) := fun k hk hp => by
    rw [hm0 k hk, if_neg (by rw [hp]; decide)]
  refine ⟨x, y, kc, k2, by rw [hq]; exact r1, by omega, q2, by omega, fun k hk => ?_, fun j k hj hk h1 h2 => ?_, fun j k hj hk h1 h2 => ?_⟩
  · by_cases hp : P k = true
    · right
      rw [hc0 k hk, if_pos hp, hm0 k hk, if_pos hp]
      exact ⟨rfl, rfl⟩
    · have hp' : P k = false := Bool.eq_false_iff.mpr hp
      rcases r5 k hk with ⟨a1, a2, a3, a4, a5⟩ | ⟨a1, a2⟩
      · refine Or.inl ⟨?_, by rw [hci k hk 7 (by decide)]; exact a2, by rw [hmi k hk 6 (by decide) (by decide)]; exact a3, a4, by omega⟩
        unfold RPf at a1 ⊢
        rw [hc0 k hk, if_neg hp, hci k hk 1 (by decide), hci k hk 2 (by decide), hci k hk 3 (by decide), hci k hk 4 (by decide), hci k hk 5 (by decide), hci k hk 6 (by decide), tg k hk hp', hmi k hk 1 (by decide) (by decide), hmi k hk 2 (by decide) (by decide), hmi k hk 3 (by decide) (by decide), hmi k hk 4 (by decide) (by decide), hmi k hk 5 (by decide) (by decide)]
        exact a1
      · exact Or.inr ⟨by rw [hc0 k hk, if_neg hp]; exact a1, by rw [tg k hk hp']; exact a2⟩
  · exact r6 j k hj hk (live j hj h1).2 (live k hk h2).2
  · rw [tg j hj (live j hj h1).1, tg k hk (live k hk h2).1, hmi j hj 1 (by decide) (by decide), hmi j hj 2 (by decide) (by decide), hmi k hk 1 (by decide) (by decide), hmi k hk 2 (by decide) (by decide)]
    exact r7 j k hj hk (live j hj h1).2 (live k hk h2).2
theorem RPv.drop {c m c' m' : Mm} (h : RPv c m) (hc : ∀ k, k < 6 → c' (9 + k) 0 = 1 → c (9 + k) 0 = 1) (hu : ∀ k, k < 6 → c' (17 + k) 0 = 1 → c (17 + k) 0 = 1) (hm : ∀ k, k < 6 → ∀ i, 1 ≤ i → i < 7 → m' 1 (192 + 7 * k + i) = m 1 (192 + 7 * k + i)) (hmu : ∀ k, k < 6 → ∀ i, 1 ≤ i → i < 7 → m' 1 (234 + 7 * k + i) = m 1 (234 + 7 * k + i)) : RPv c' m' := by
  refine ⟨fun k hk h1 => ?_, fun k hk h1 => ?_⟩
  · rw [hm k hk 3 (by decide) (by decide), hm k hk 4 (by decide) (by decide)]
    exact h.1 k hk (hc k hk h1)
  · rw [hmu k hk 3 (by decide) (by decide), hmu k hk 4 (by decide) (by decide), hmu k hk 1 (by decide) (by decide)]
    exact h.2 k hk (hu k hk h1)
theorem RW.abort {c m c' m' : Mm} (Q : Nat → Bool) (h : RW c m) (hc0 : ∀ k, k < 4 → c' (24 + 2 * k) 0 = if Q k = true then 4 else c (24 + 2 * k) 0) (hci : ∀ k, k < 4 → ∀ i, i ≠ 0 → c' (24 + 2 * k) i = c (24 + 2 * k) i) (hm0 : ∀ k, k < 4 → m' 1 (276 + 11 * k) = if Q k = true then 4 else m 1 (276 + 11 * k)) (hmi : ∀ k, k < 4 → ∀ i, 1 ≤ i → i < 11 → m' 1 (276 + 11 * k + i) = m 1 (276 + 11 * k + i)) : RW c' m' := by
  intro k hk
  have := h k hk
  unfold RW1 at this ⊢
  rw [hc0 k hk, hm0 k hk, hci k hk 1 (by decide), hci k hk 2 (by decide), hci k hk 3 (by decide), hci k hk 4 (by decide), hci k hk 5 (by decide), hci k hk 6 (by decide), hci k hk 7 (by decide), hci k hk 8 (by decide), hci k hk 9 (by decide), hmi k hk 1 (by decide) (by decide), hmi k hk 2 (by decide) (by decide), hmi k hk 3 (by decide) (by decide), hmi k hk 4 (by decide) (by decide), hmi k hk 5 (by decide) (by decide), hmi k hk 6 (by decide) (by decide), hmi k hk 7 (by decide) (by decide), hmi k hk 8 (by decide) (by decide), hmi k hk 9 (by decide) (by decide)]
  by_cases hq : Q k = true
  · rw [if_pos hq, if_pos hq]
    obtain ⟨-, -, e3, e4, e5, e6, e7, -⟩ := this
    exact ⟨rfl, ⟨4, by decide, rfl⟩, e3, e4, e5, e6, e7, fun h => absurd h (by decide), fun h => absurd h (by decide)⟩
  · rw [if_neg hq, if_neg hq]
    exact this
theorem RLk.drop {m m' : Mm} (h : RLk m) (h1 : ∀ k, k < 6 → m' 1 (192 + 7 * k) ≠ -1 → m' 1 (192 + 7 * k) = m 1 (192 + 7 * k)) (h2 : ∀ k, k < 6 → m' 1 (234 + 7 * k) ≠ -1 → m' 1 (234 + 7 * k) = m 1 (234 + 7 * k)) (h3 : ∀ k, k < 4 → m' 1 (276 + 11 * k) = 1 → m 1 (276 + 11 * k) = 1 ∧ m' 1 (276 + 11 * k + 9) = m 1 (276 + 11 * k + 9)) (e2 : Ea 332 338 m m') : RLk m' := by
  obtain ⟨r1, r2, r3⟩ := h
  refine ⟨fun k hk hx => ?_, fun k hk hx => ?_, fun k hk hx => ?_⟩
  · have e := h1 k hk hx
    rw [e] at hx ⊢
    obtain ⟨s, hs, q⟩ := r1 k hk hx
    exact ⟨s, hs, by rw [e2 (332 + s) (by omega) (by omega)]; exact q⟩
  · have e := h2 k hk hx
    rw [e] at hx ⊢
    obtain ⟨s, hs, q⟩ := r2 k hk hx
    exact ⟨s, hs, by rw [e2 (332 + s) (by omega) (by omega)]; exact q⟩
  · obtain ⟨y1, y2⟩ := h3 k hk hx
    rw [y2]
    obtain ⟨s, hs, q⟩ := r3 k hk y1
    exact ⟨s, hs, by rw [e2 (332 + s) (by omega) (by omega)]; exact q⟩
