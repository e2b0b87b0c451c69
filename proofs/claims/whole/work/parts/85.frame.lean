/-! PURE: what a part of the relation does not look at -/
/-- the clock has gone from m to m' -/
def Ck (n n' : Nat) (m m' : Mm) : Prop := n ≤ n' ∧ n' < 1024 ∧ ∃ km km' : Nat, m 1 320 = nI km ∧ km ≤ 16 * n ∧ m' 1 320 = nI km' ∧ km ≤ km' ∧ km' ≤ 16 * n'
theorem RC.cg {n n' : Nat} {c m c' m' : Mm} (h : RC n c m) (h3 : c' 3 = c 3) (h6 : c' 6 = c 6) (k : Ck n n' m m') (e : Ea 332 345 m m') : RC n' c' m' := by
  obtain ⟨x, y, kc, km, r1, r2, r3, r4, r5, r6⟩ := h
  obtain ⟨hn, hn2, k1, k2, q1, q0, q2, q3, q4⟩ := k
  have e1 : km = k1 := nI_inj (by omega) (by omega) (r3.symm.trans q1)
  refine ⟨x, y, kc, k2, by rw [h3]; exact r1, by omega, q2, by omega, fun s hs => ?_, fun s t hs ht => ?_⟩
  · obtain ⟨a1, a2, a3, a4⟩ := r5 s hs
    rw [h6, e (338 + s) (by omega) (by omega)]
    exact ⟨a1, a2, a3, by omega⟩
  · rw [e (332 + s) (by omega) (by omega), e (332 + t) (by omega) (by omega), e 344 (by omega) (by omega)]
    exact r6 s t hs ht
theorem RP.cg {n n' b q a : Nat} {c m c' m' : Mm} (h : RP n b q a c m) (hb : ∀ k, k < 6 → c' (b + k) = c (b + k)) (hq : c' q 1 = c q 1) (k : Ck n n' m m') (e : Ea a (a + 42) m m') : RP n' b q a c' m' := by
  obtain ⟨x, y, kc, km, r1, r2, r3, r4, r5, r6, r7⟩ := h
  obtain ⟨hn, hn2, k1, k2, q1, q0, q2, q3, q4⟩ := k
  have e1 : km = k1 := nI_inj (by omega) (by omega) (r3.symm.trans q1)
  refine ⟨x, y, kc, k2, by rw [hq]; exact r1, by omega, q2, by omega, fun k hk => ?_, fun j k hj hk => ?_, fun j k hj hk => ?_⟩
  · rcases r5 k hk with ⟨a1, a2, a3, a4, a5⟩ | ⟨a1, a2⟩
    · refine Or.inl ⟨?_, by rw [hb k hk]; exact a2, by rw [e (a + 7 * k + 6) (by omega) (by omega)]; exact a3, a4, by omega⟩
      unfold RPf at a1 ⊢
      rw [hb k hk, e (a + 7 * k) (by omega) (by omega), e (a + 7 * k + 1) (by omega) (by omega), e (a + 7 * k + 2) (by omega) (by omega), e (a + 7 * k + 3) (by omega) (by omega), e (a + 7 * k + 4) (by omega) (by omega), e (a + 7 * k + 5) (by omega) (by omega)]
      exact a1
    · refine Or.inr ⟨by rw [hb k hk]; exact a1, by rw [e (a + 7 * k) (by omega) (by omega)]; exact a2⟩
  · rw [hb j hj, hb k hk]; exact r6 j k hj hk
  · rw [hb j hj, hb k hk, e (a + 7 * k) (by omega) (by omega), e (a + 7 * k + 1) (by omega) (by omega), e (a + 7 * k + 2) (by omega) (by omega), e (a + 7 * j) (by omega) (by omega), e (a + 7 * j + 1) (by omega) (by omega), e (a + 7 * j + 2) (by omega) (by omega)]
    exact r7 j k hj hk
theorem RPv.cg {c m c' m' : Mm} (h : RPv c m) (hb : ∀ k, k < 6 → c' (9 + k) = c (9 + k)) (hu : ∀ k, k < 6 → c' (17 + k) = c (17 + k)) (e : Ea 192 276 m m') : RPv c' m' := by
  refine ⟨fun k hk => ?_, fun k hk => ?_⟩
  · rw [hb k hk, e (192 + 7 * k + 3) (by omega) (by omega), e (192 + 7 * k + 4) (by omega) (by omega)]; exact h.1 k hk
  · rw [hu k hk, e (234 + 7 * k + 3) (by omega) (by omega), e (234 + 7 * k + 4) (by omega) (by omega), e (234 + 7 * k + 1) (by omega) (by omega)]; exact h.2 k hk
theorem RW1.cg {w a : Nat} {c m c' m' : Mm} (h : RW1 w a c m) (hw : c' w = c w) (e : Ea a (a + 11) m m') : RW1 w a c' m' := by
  unfold RW1 at h ⊢
  rw [hw, e a (by omega) (by omega), e (a + 1) (by omega) (by omega), e (a + 2) (by omega) (by omega), e (a + 3) (by omega) (by omega), e (a + 4) (by omega) (by omega), e (a + 5) (by omega) (by omega), e (a + 6) (by omega) (by omega), e (a + 7) (by omega) (by omega), e (a + 8) (by omega) (by omega), e (a + 9) (by omega) (by omega)]
  exact h
theorem RW.cg {c m c' m' : Mm} (h : RW c m) (hw : ∀ k, k < 4 → c' (24 + 2 * k) = c (24 + 2 * k)) (e : Ea 276 320 m m') : RW c' m' := fun k hk => (h k hk).cg (hw k hk) (e.sub (by omega) (by omega))
theorem RN.cg {c m c' m' : Mm} (h : RN c m) (h0 : c' 0 = c 0) (e : Ea 321 326 m m') : RN c' m' := by
  unfold RN at h ⊢
  rw [h0, e 321 (by omega) (by omega), e 322 (by omega) (by omega), e 323 (by omega) (by omega), e 324 (by omega) (by omega), e 325 (by omega) (by omega)]
  exact h
theorem RH.cg {n n' : Nat} {c m c' m' : Mm} (h : RH n c m) (hn : n ≤ n') (h37 : c' 37 2 = c 37 2) (h38 : c' 38 = c 38) (h39 : c' 39 = c 39) (e6 : m' 0 6 = m 0 6) (e7 : m' 0 7 = m 0 7) (p3 : m' 3 = m 3) (p4 : m' 4 = m 4) (p5 : m' 5 = m 5) : RH n' c' m' := by
  obtain ⟨t, r1, r2⟩ := h
  refine ⟨t, by omega, ?_⟩
  rw [h37, h38, h39, e6, e7, p3, p4, p5]; exact r2
theorem RF.cg {n n' cap : Nat} {c m c' m' : Mm} (h : RF n cap c m) (hn : n ≤ n') (h40 : c' 40 = c 40) (h41 : c' 41 = c 41) (h42 : c' 42 = c 42) (h43 : c' 43 = c 43) (e8 : m' 0 8 = m 0 8) (p6 : m' 6 = m 6) (p7 : m' 7 = m 7) : RF n' cap c' m' := by
  obtain ⟨r1, r2, r3, r4, k, r5, r6, r7, r8, r9, r10⟩ := h
  rw [RF, h40, h41, h42, h43, e8, p6, p7]
  exact ⟨r1, r2.le (by omega), fun s hs => ⟨(r3 s hs).1, (r3 s hs).2.le (by omega)⟩, r4, k, by omega, r6, r7, fun j hj => ⟨(r8 j hj).1, (r8 j hj).2.le (by omega)⟩, r9, r10⟩
theorem RLk.cg {m m' : Mm} (h : RLk m) (e : Ea 192 320 m m') (e2 : Ea 332 338 m m') : RLk m' := by
  obtain ⟨r1, r2, r3⟩ := h
  refine ⟨fun k hk hx => ?_, fun k hk hx => ?_, fun k hk hx => ?_⟩
  · rw [e (192 + 7 * k) (by omega) (by omega)] at hx ⊢
    obtain ⟨s, hs, q⟩ := r1 k hk hx
    exact ⟨s, hs, by rw [e2 (332 + s) (by omega) (by omega)]; exact q⟩
  · rw [e (234 + 7 * k) (by omega) (by omega)] at hx ⊢
    obtain ⟨s, hs, q⟩ := r2 k hk hx
    exact ⟨s, hs, by rw [e2 (332 + s) (by omega) (by omega)]; exact q⟩
  · rw [e (276 + 11 * k) (by omega) (by omega)] at hx
    rw [e (276 + 11 * k + 9) (by omega) (by omega)]
    obtain ⟨s, hs, q⟩ := r3 k hk hx
    exact ⟨s, hs, by rw [e2 (332 + s) (by omega) (by omega)]; exact q⟩
theorem Rel.clk {n cap : Nat} {c m : Mm} (h : Rel n cap c m) : ∃ km : Nat, m 1 320 = nI km ∧ km ≤ 16 * n := by
  obtain ⟨x, y, kc, km, r1, r2, r3, r4, r5⟩ := h.2.2.2.1
  exact ⟨km, r3, r4⟩
theorem Rel.ck {n cap : Nat} {c m m' : Mm} (h : Rel n cap c m) (hn : n < 512) (e : m' 1 320 = m 1 320) : Ck n (n + 1) m m' := by
  obtain ⟨km, r3, r4⟩ := h.clk
  exact ⟨by omega, by omega, km, km, r3, r4, by rw [e]; exact r3, by omega, by omega⟩
theorem nine {c c' : Mm} (b : Nat) (hb : b = 9 ∨ b = 17) (h : ∀ x, b ≤ x → x < b + 6 → c' x = c x) : ∀ k, k < 6 → c' (b + k) = c (b + k) := fun k hk => h _ (by omega) (by omega)
