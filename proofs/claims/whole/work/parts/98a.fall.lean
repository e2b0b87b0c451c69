/-! PURE: fenceAll -/
theorem dM_comm {P1 P2 : Nat → Bool} {J K : Nat} (hJ : J ≤ 6) (hK : K ≤ 6) (m : Mm) : dM 234 P2 K (dM 192 P1 J m) = dM 192 P1 J (dM 234 P2 K m) := by
  funext b i
  by_cases h1 : b = 1 ∧ 192 ≤ i ∧ i < 192 + 7 * J ∧ (i - 192) % 7 = 0 ∧ P1 ((i - 192) / 7) = true
  · have h2 : ¬ (b = 1 ∧ 234 ≤ i ∧ i < 234 + 7 * K ∧ (i - 234) % 7 = 0 ∧ P2 ((i - 234) / 7) = true) := by omega
    unfold dM
    rw [if_neg h2, if_pos h1, if_pos h1]
  · unfold dM
    rw [if_neg h1, if_neg h1]
theorem goes_st {m : Mm} {a k : Nat} {P : Nat → Bool} {is : Int32} (hA : a + 7 * k < 345) (hm : Vn 3 (m 1 (a + 7 * k))) (hP : P k = true ↔ (¬ m 1 (a + 7 * k) = -1 ∧ ¬ is = 0)) : fX9_goes (dM a P k m) (nI (a + 7 * k)) is = some (dM a P (k + 1) m, nI (if P k = true then 1 else 0)) := by
  have e : dM a P k m 1 (a + 7 * k) = m 1 (a + 7 * k) := dM_out (by omega)
  rcases hm with h | ⟨g, hg, h⟩
  · have pf : P k = false := Bool.eq_false_iff.mpr (fun z => (hP.mp z).1 h)
    rw [goes_e hA (by rw [e]; exact h), dM_no pf, pf]; rfl
  · have nm : ¬ m 1 (a + 7 * k) = -1 := by rw [h, m1ne (by omega)]; exact id
    rw [goes_f hA hg (by rw [e]; exact h)]
    by_cases h0 : is = 0
    · have pf : P k = false := Bool.eq_false_iff.mpr (fun z => (hP.mp z).2 h0)
      rw [if_pos h0, dM_no pf, pf]; rfl
    · have pt : P k = true := hP.mpr ⟨nm, h0⟩
      rw [if_neg h0, dM_yes pt, pt]; rfl
theorem cnt2 {P1 P2 : Nat → Bool} {k : Nat} : nI (fa_cnt P1 k + fa_cnt P2 k) + (nI (if P1 k = true then 1 else 0) + nI (if P2 k = true then 1 else 0)) = nI (fa_cnt P1 (k + 1) + fa_cnt P2 (k + 1)) := by
  rw [nI_add, nI_add]
  congr 1
  show fa_cnt P1 k + fa_cnt P2 k + ((if P1 k = true then 1 else 0) + (if P2 k = true then 1 else 0)) = (fa_cnt P1 k + (if P1 k = true then 1 else 0)) + (fa_cnt P2 k + (if P2 k = true then 1 else 0))
  omega
theorem RP.vn {n b q a : Nat} {c m : Mm} (h : RP n b q a c m) {k : Nat} (hk : k < 6) : Vn 3 (m 1 (a + 7 * k)) := by
  rcases h.dich hk with ⟨-, -, g, hg, e⟩ | ⟨-, e⟩
  · exact Or.inr ⟨g, hg, e⟩
  · exact Or.inl e
theorem RP.f0 {n b q a : Nat} {c m : Mm} (h : RP n b q a c m) {k : Nat} (hk : k < 6) : ¬ c (b + k) 0 = 0 ↔ ¬ m 1 (a + 7 * k) = -1 := by
  rcases h.dich hk with ⟨e1, -, g, hg, e⟩ | ⟨e1, e⟩
  · rw [e1, e, m1ne (by omega)]
    exact ⟨fun _ => id, fun _ => by decide⟩
  · rw [e1, e]
    exact ⟨fun h => absurd rfl h, fun h => absurd rfl h⟩
theorem b17_sp {m : Mm} {P1 P2 : Nat → Bool} {r : Mm × Int32} (h1 : ∀ k, k < 6 → Vn 3 (m 1 (192 + 7 * k))) (h2 : ∀ k, k < 6 → Vn 3 (m 1 (234 + 7 * k))) (hP1 : ∀ k, k < 6 → (P1 k = true ↔ ¬ m 1 (192 + 7 * k) = -1)) (hP2 : ∀ k, k < 6 → (P2 k = true ↔ ¬ m 1 (234 + 7 * k) = -1)) (hend : fX9_fenceAll_b61 2000 (dM 234 P2 6 (dM 192 P1 6 m)) (nI (fa_cnt P1 6 + fa_cnt P2 6)) 0 = some r) : fX9_fenceAll_b17 2000 m 0 0 = some r := by
  have key := down (P := fun f k => fX9_fenceAll_b17 f (dM 234 P2 k (dM 192 P1 k m)) (nI (fa_cnt P1 k + fa_cnt P2 k)) (nI k) = some r) 6 ?_ ?_ 6 0 2000 rfl (by decide)
  · rw [dM_0, dM_0] at key; exact key
  · intro f
    have L : fX9_fenceAll_b17 (f + 1) (dM 234 P2 6 (dM 192 P1 6 m)) (nI (fa_cnt P1 6 + fa_cnt P2 6)) (nI 6) = fX9_fenceAll_b17_s (fX9_fenceAll_b17 f) (dM 234 P2 6 (dM 192 P1 6 m)) (nI (fa_cnt P1 6 + fa_cnt P2 6)) (nI 6) := rfl
    rw [L]
    unfold fX9_fenceAll_b17_s
    rw [if_pos (by decide)]
    exact hend
  · intro f k hk ih
    have L : fX9_fenceAll_b17 (f + 1) (dM 234 P2 k (dM 192 P1 k m)) (nI (fa_cnt P1 k + fa_cnt P2 k)) (nI k) = fX9_fenceAll_b17_s (fX9_fenceAll_b17 f) (dM 234 P2 k (dM 192 P1 k m)) (nI (fa_cnt P1 k + fa_cnt P2 k)) (nI k) := rfl
    rw [L]
    unfold fX9_fenceAll_b17_s
    have e1 : dM 234 P2 k m 1 (192 + 7 * k) = m 1 (192 + 7 * k) := dM_out (by omega)
    have e2 : dM 192 P1 (k + 1) m 1 (234 + 7 * k) = m 1 (234 + 7 * k) := dM_out (by omega)
    rw [if_neg (by rw [ge6F hk]; exact id), i192, i234, dM_comm (by omega) (by omega), goes_st (by omega) (by rw [e1]; exact h1 k hk) (by rw [e1]; exact ⟨fun z => ⟨(hP1 k hk).mp z, by decide⟩, fun z => (hP1 k hk).mpr z.1⟩), bw_eq, ← dM_comm (by omega) (by omega), goes_st (by omega) (by rw [e2]; exact h2 k hk) (by rw [e2]; exact ⟨fun z => ⟨(hP2 k hk).mp z, by decide⟩, fun z => (hP2 k hk).mpr z.1⟩), bw_eq, lk_eq, cnt2, na1]
    exact ih
/-- what a fence leaves -/
theorem fence_rel {n cap cap' : Nat} {c m c' m' : Mm} (hr : Rel n cap c m) (hn : n < 512) (P1 P2 Q : Nat → Bool)
  (hC : ∀ b, b < 9 ∨ (14 < b ∧ b < 17) ∨ (22 < b ∧ b < 24) ∨ (31 < b ∧ b < 40) → c' b = c b)
  (hc1 : ∀ k, k < 6 → c' (9 + k) 0 = if P1 k = true then 0 else c (9 + k) 0) (hc1i : ∀ k, k < 6 → ∀ i, i ≠ 0 → c' (9 + k) i = c (9 + k) i)
  (hc2 : ∀ k, k < 6 → c' (17 + k) 0 = if P2 k = true then 0 else c (17 + k) 0) (hc2i : ∀ k, k < 6 → ∀ i, i ≠ 0 → c' (17 + k) i = c (17 + k) i)
  (hcw : ∀ k, k < 4 → c' (24 + 2 * k) 0 = if Q k = true then 4 else c (24 + 2 * k) 0) (hcwi : ∀ k, k < 4 → ∀ i, i ≠ 0 → c' (24 + 2 * k) i = c (24 + 2 * k) i)
  (hE : ∀ i, i < 192 ∨ 320 ≤ i → m' 1 i = m 1 i)
  (hm1 : ∀ k, k < 6 → m' 1 (192 + 7 * k) = if P1 k = true then -1 else m 1 (192 + 7 * k)) (hm1i : ∀ k, k < 6 → ∀ i, 1 ≤ i → i < 7 → m' 1 (192 + 7 * k + i) = m 1 (192 + 7 * k + i))
  (hm2 : ∀ k, k < 6 → m' 1 (234 + 7 * k) = if P2 k = true then -1 else m 1 (234 + 7 * k)) (hm2i : ∀ k, k < 6 → ∀ i, 1 ≤ i → i < 7 → m' 1 (234 + 7 * k + i) = m 1 (234 + 7 * k + i))
  (hmw : ∀ k, k < 4 → m' 1 (276 + 11 * k) = if Q k = true then 4 else m 1 (276 + 11 * k)) (hmwi : ∀ k, k < 4 → ∀ i, 1 ≤ i → i < 11 → m' 1 (276 + 11 * k + i) = m 1 (276 + 11 * k + i))
  (z6 : m' 0 6 = m 0 6) (z7 : m' 0 7 = m 0 7) (p3 : m' 3 = m 3) (p4 : m' 4 = m 4) (p5 : m' 5 = m 5) (hF : RF (n + 1) cap' c' m') : Rel (n + 1) cap' c' m' := by
  obtain ⟨q1, q2, q3, q4, q5, q6, q7, q8, q9, q10, q11⟩ := id hr
  have E : ∀ lo hi, hi ≤ 192 ∨ 320 ≤ lo → Ea lo hi m m' := fun lo hi h i h1 h2 => hE i (by omega)
  have C : ∀ b, b < 9 ∨ (14 < b ∧ b < 17) ∨ (22 < b ∧ b < 24) ∨ (31 < b ∧ b < 40) → c' b = c b := hC
  have K : Ck n (n + 1) m m' := hr.ck hn (hE 320 (by omega))
  have T1 : RP (n + 1) 9 7 192 c' m' := q4.drop P1 hc1 hc1i (by rw [C 7 (by omega)]) hm1 hm1i K
  have T2 : RP (n + 1) 17 15 234 c' m' := q5.drop P2 hc2 hc2i (by rw [C 15 (by omega)]) hm2 hm2i K
  have T3 : RPv c' m' := q6.drop (fun k hk h => by
    rw [hc1 k hk] at h
    by_cases hp : P1 k = true
    · rw [if_pos hp] at h; exact absurd h (by decide)
    · rw [if_neg hp] at h; exact h) (fun k hk h => by
    rw [hc2 k hk] at h
    by_cases hp : P2 k = true
    · rw [if_pos hp] at h; exact absurd h (by decide)
    · rw [if_neg hp] at h; exact h) hm1i hm2i
  have T4 : RW c' m' := q7.abort Q hcw hcwi hmw hmwi
  have T5 : RLk m' := q11.drop (fun k hk h => by
    rw [hm1 k hk] at h ⊢
    by_cases hp : P1 k = true
    · rw [if_pos hp] at h; exact absurd rfl h
    · rw [if_neg hp]) (fun k hk h => by
    rw [hm2 k hk] at h ⊢
    by_cases hp : P2 k = true
    · rw [if_pos hp] at h; exact absurd rfl h
    · rw [if_neg hp]) (fun k hk h => by
    rw [hmw k hk] at h
    by_cases hp : Q k = true
    · rw [if_pos hp] at h; exact absurd h (by decide)
    · rw [if_neg hp] at h; exact ⟨h, hmwi k hk 9 (by decide) (by decide)⟩) (E _ _ (by omega))
  exact ⟨q1.cg (C _ (by decide)) (C _ (by decide)) (E _ _ (by omega)), q2.cg (by rw [C _ (by decide)]) (C _ (by decide)) (C _ (by decide)) (E _ _ (by omega)) (E 344 345 (by omega) 344 (by omega) (by omega)), q3.cg (C _ (by decide)) (C _ (by decide)) K (E _ _ (by omega)), T1, T2, T3, T4, q8.cg (C _ (by decide)) (E _ _ (by omega)), q9.cg (by omega) (by rw [C _ (by decide)]) (C _ (by decide)) (C _ (by decide)) z6 z7 p3 p4 p5, hF, T5⟩
theorem fall_loop {c : Mm} {Q : Nat → Bool} (hQ : ∀ k, k < 4 → (Q k = true ↔ c (24 + 2 * k) 0 = 1)) {r : Mm × Int32} (hend : bw (fX5_dropAll (wr (aC Q 4 c) 40 1 (c 37 2)) 7) (fun m4 r3 => bw (fX5_dropAll m4 15) (fun m6 r5 => some (m6, (r3 + r5)))) = some r) : fX8_fenceAll c = some r := by
  have key := down (P := fun f k => fX8_fenceAll_b2 f (aC Q k c) (nI k) = some r) 4 ?_ ?_ 4 0 2000 rfl (by decide)
  · rw [aC_0] at key; exact key
  · intro f
    have L : fX8_fenceAll_b2 (f + 1) (aC Q 4 c) (nI 4) = fX8_fenceAll_b2_s (fX8_fenceAll_b2 f) (aC Q 4 c) (nI 4) := rfl
    rw [L]
    unfold fX8_fenceAll_b2_s
    rw [if_pos (by decide), wk_eq, aC_out (by omega)]
    exact hend
  · intro f k hk ih
    have L : fX8_fenceAll_b2 (f + 1) (aC Q k c) (nI k) = fX8_fenceAll_b2_s (fX8_fenceAll_b2 f) (aC Q k c) (nI k) := rfl
    rw [L]
    unfold fX8_fenceAll_b2_s
    simp (disch := omega) only [ge4F, if_false, gd_nI, nI_clamp, lkN_eq, Nat.reduceAdd, na1]
    rw [abort_st (hQ k hk), bw_eq]
    exact ih
theorem st_fenceAll : St_fenceAll Rel := by
  intro n cap cm mm hn hr
  obtain ⟨q1, q2, q3, q4, q5, q6, q7, q8, q9, q10, q11⟩ := id hr
  have hQ : ∀ k, k < 4 → ((fun k => decide (mm 1 (276 + 11 * k) = 1)) k = true ↔ mm 1 (276 + 11 * k) = 1) := fun k _ => decide_eq_true_iff
  have hP1 : ∀ k, k < 6 → ((fun k => decide (¬ mm 1 (192 + 7 * k) = -1)) k = true ↔ ¬ mm 1 (192 + 7 * k) = -1) := fun k _ => decide_eq_true_iff
  have hP2 : ∀ k, k < 6 → ((fun k => decide (¬ mm 1 (234 + 7 * k) = -1)) k = true ↔ ¬ mm 1 (234 + 7 * k) = -1) := fun k _ => decide_eq_true_iff
  generalize (fun k => decide (mm 1 (276 + 11 * k) = 1)) = Q at hQ
  generalize (fun k => decide (¬ mm 1 (192 + 7 * k) = -1)) = P1 at hP1
  generalize (fun k => decide (¬ mm 1 (234 + 7 * k) = -1)) = P2 at hP2
  have ez : wr (wr mm 0 0 0) 0 8 (mm 0 7) 1 = mm 1 := by rw [wr_ne _ _ _ (by decide), wr_ne _ _ _ (by decide)]
  refine ⟨dC 17 P2 6 (dC 9 P1 6 (wr (aC Q 4 cm) 40 1 (cm 37 2))), aM Q 4 (dM 234 P2 6 (dM 192 P1 6 (wr (wr mm 0 0 0) 0 8 (mm 0 7)))), nI (fa_cnt P1 6 + fa_cnt P2 6), ?_, ?_, ?_⟩
  · apply fall_loop (Q := Q) (fun k hk => by rw [hQ k hk, (q7 k hk).1])
    have eb : ∀ k, k < 6 → wr (aC Q 4 cm) 40 1 (cm 37 2) (9 + k) 0 = cm (9 + k) 0 := fun k hk => by
      rw [wr_b _ _ _ _ (by omega), aC_out (by omega)]
    have eb2 : ∀ k, k < 6 → dC 9 P1 6 (wr (aC Q 4 cm) 40 1 (cm 37 2)) (17 + k) 0 = cm (17 + k) 0 := fun k hk => by
      rw [dC_out (by omega), wr_b _ _ _ _ (by omega), aC_out (by omega)]
    rw [dropAll_sp (q := 7) (P := P1) (fun k hk => by rw [show 7 + 1 + 1 + k = 9 + k by omega, eb k hk, hP1 k hk, q4.f0 hk]), bw_eq]
    rw [dropAll_sp (q := 15) (P := P2) (fun k hk => by rw [show 15 + 1 + 1 + k = 17 + k by omega, eb2 k hk, hP2 k hk, q5.f0 hk]), bw_eq, nI_add]
  · unfold fX9_fenceAll
    rw [wk_eq, wk_eq, wr_i _ _ _ (by decide)]
    apply b17_sp (P1 := P1) (P2 := P2)
    · intro k hk; rw [ez]; exact q4.vn hk
    · intro k hk; rw [ez]; exact q5.vn hk
    · intro k hk; rw [ez]; exact hP1 k hk
    · intro k hk; rw [ez]; exact hP2 k hk
    · apply b61_sp
      intro k hk
      rw [dM_out (by omega), dM_out (by omega), ez]
      exact hQ k hk
  · apply fence_rel (cap' := cap) hr hn P1 P2 Q
    · intro b hb
      rw [dC_out (by omega), dC_out (by omega), wr_ne _ _ _ (by omega), aC_out (by omega)]
    · intro k hk
      rw [dC_out (by omega), dC_at hk, wr_b _ _ _ _ (by omega), aC_out (by omega)]
    · intro k hk i hi
      rw [dC_i hi, dC_i hi, wr_b _ _ _ _ (by omega), aC_out (by omega)]
    · intro k hk
      rw [dC_at hk, dC_out (by omega), wr_b _ _ _ _ (by omega), aC_out (by omega)]
    · intro k hk i hi
      rw [dC_i hi, dC_i hi, wr_b _ _ _ _ (by omega), aC_out (by omega)]
    · intro k hk
      rw [dC_out (by omega), dC_out (by omega), wr_b _ _ _ _ (by omega), aC_at hk]
    · intro k hk i hi
      rw [dC_out (by omega), dC_out (by omega), wr_b _ _ _ _ (by omega), aC_i hi]
    · intro i hi
      rw [aM_out (by omega), dM_out (by omega), dM_out (by omega), ez]
    · intro k hk
      rw [aM_out (by omega), dM_out (by omega), dM_at hk, ez]
    · intro k hk i h1 h2
      rw [aM_out (by omega), dM_out (by omega), dM_i h1 h2, ez]
    · intro k hk
      rw [aM_out (by omega), dM_at hk, dM_out (by omega), ez]
    · intro k hk i h1 h2
      rw [aM_out (by omega), dM_i h1 h2, dM_out (by omega), ez]
    · intro k hk
      rw [aM_at hk, dM_out (by omega), dM_out (by omega), ez]
    · intro k hk i h1 h2
      rw [aM_i h1 h2, dM_out (by omega), dM_out (by omega), ez]
    · rw [aM_b (by decide), dM_b (by decide), dM_b (by decide)]
      simp (disch := omega) only [wr_same, wr_i, wr_b]
    · rw [aM_b (by decide), dM_b (by decide), dM_b (by decide)]
      simp (disch := omega) only [wr_same, wr_i, wr_b]
    · rw [aM_b (by decide), dM_b (by decide), dM_b (by decide), wr_ne _ _ _ (by decide), wr_ne _ _ _ (by decide)]
    · rw [aM_b (by decide), dM_b (by decide), dM_b (by decide), wr_ne _ _ _ (by decide), wr_ne _ _ _ (by decide)]
    · rw [aM_b (by decide), dM_b (by decide), dM_b (by decide), wr_ne _ _ _ (by decide), wr_ne _ _ _ (by decide)]
    · have cb : ∀ b, 40 ≤ b → dC 17 P2 6 (dC 9 P1 6 (wr (aC Q 4 cm) 40 1 (cm 37 2))) b = wr cm 40 1 (cm 37 2) b := fun b hb => by
        rw [dC_out (by omega), dC_out (by omega)]
        funext i
        by_cases e : b = 40
        · subst e
          by_cases e2 : i = 1
          · subst e2
            rw [wr_same, wr_same]
          · rw [wr_i _ _ _ e2, wr_i _ _ _ e2, aC_out (by omega)]
        · rw [wr_b _ _ _ _ e, wr_b _ _ _ _ e, aC_out (by omega)]
      have mb : ∀ b, b ≠ 1 → aM Q 4 (dM 234 P2 6 (dM 192 P1 6 (wr (wr mm 0 0 0) 0 8 (mm 0 7)))) b = wr (wr mm 0 0 0) 0 8 (mm 0 7) b := fun b hb => by
        rw [aM_b hb, dM_b hb, dM_b hb]
      obtain ⟨t, t1, t2, t3, -⟩ := q9
      obtain ⟨r1, r2, r3, r4, k, r5, r6, r7, r8, r9, r10⟩ := q10
      unfold RF
      rw [cb 40 (by decide), cb 41 (by decide), cb 42 (by decide), cb 43 (by decide), mb 0 (by decide), mb 6 (by decide), mb 7 (by decide), wr_same, wr_same, wr_i _ _ _ (show (4 : Nat) ≠ 1 by decide), wr_ne _ _ _ (show (41 : Nat) ≠ 40 by decide), wr_ne _ _ _ (show (42 : Nat) ≠ 40 by decide), wr_ne _ _ _ (show (43 : Nat) ≠ 40 by decide), wr_ne _ _ _ (show (6 : Nat) ≠ 0 by decide), wr_ne _ _ _ (show (6 : Nat) ≠ 0 by decide), wr_ne _ _ _ (show (7 : Nat) ≠ 0 by decide), wr_ne _ _ _ (show (7 : Nat) ≠ 0 by decide), t2, t3]
      exact ⟨rfl, ⟨t, by omega, rfl⟩, fun s hs => ⟨(r3 s hs).1, (r3 s hs).2.le (by omega)⟩, r4, k, by omega, r6, r7, fun j hj => ⟨(r8 j hj).1, (r8 j hj).2.le (by omega)⟩, r9, r10⟩
