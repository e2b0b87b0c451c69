/-! PURE: a change is noted: entry, root -/
theorem rem40 {t : Nat} (h : t < 2 ^ 31) : nI t - nI t / (40 : Int32) * (40 : Int32) = nI (t % 40) := pk_rem h (by decide) (by decide)
def mSh (m : Mm) (k : Nat) : Mm := fun b i => if (b = 3 ∨ b = 4 ∨ b = 5) ∧ i + 1 < k then m b (i + 1) else m b i
theorem mSh_ne {m : Mm} {k b : Nat} (h3 : b ≠ 3) (h4 : b ≠ 4) (h5 : b ≠ 5) : mSh m k b = m b := by
  funext i
  unfold mSh
  rw [if_neg (by omega)]
theorem mSh_lt {m : Mm} {k b i : Nat} (hb : b = 3 ∨ b = 4 ∨ b = 5) (h : i + 1 < k) : mSh m k b i = m b (i + 1) := by
  unfold mSh
  rw [if_pos ⟨hb, h⟩]
theorem mSh_ge {m : Mm} {k b i : Nat} (h : k ≤ i + 1) : mSh m k b i = m b i := by
  unfold mSh
  rw [if_neg (by omega)]
theorem mSh_step (m : Mm) (k : Nat) (h : 1 ≤ k) : wr (wr (wr (mSh m k) 3 (k - 1) (m 3 k)) 4 (k - 1) (m 4 k)) 5 (k - 1) (m 5 k) = mSh m (k + 1) := by
  funext b i
  by_cases h5 : b = 5
  · subst h5
    by_cases hi : i = k - 1
    · subst hi
      rw [wr_same, mSh_lt (by omega) (by omega)]
      congr 1; omega
    · rw [wr_i _ _ _ hi, wr_b _ _ _ _ (by decide), wr_b _ _ _ _ (by decide)]
      by_cases h2 : i + 1 < k
      · rw [mSh_lt (by omega) h2, mSh_lt (by omega) (by omega)]
      · rw [mSh_ge (by omega), mSh_ge (by omega)]
  · rw [wr_b _ _ _ _ h5]
    by_cases h4 : b = 4
    · subst h4
      by_cases hi : i = k - 1
      · subst hi
        rw [wr_same, mSh_lt (by omega) (by omega)]
        congr 1; omega
      · rw [wr_i _ _ _ hi, wr_b _ _ _ _ (by decide)]
        by_cases h2 : i + 1 < k
        · rw [mSh_lt (by omega) h2, mSh_lt (by omega) (by omega)]
        · rw [mSh_ge (by omega), mSh_ge (by omega)]
    · rw [wr_b _ _ _ _ h4]
      by_cases h3 : b = 3
      · subst h3
        by_cases hi : i = k - 1
        · subst hi
          rw [wr_same, mSh_lt (by omega) (by omega)]
          congr 1; omega
        · rw [wr_i _ _ _ hi]
          by_cases h2 : i + 1 < k
          · rw [mSh_lt (by omega) h2, mSh_lt (by omega) (by omega)]
          · rw [mSh_ge (by omega), mSh_ge (by omega)]
      · rw [wr_b _ _ _ _ h3, mSh_ne h3 h4 h5, mSh_ne h3 h4 h5]
theorem ns1 {k : Nat} (h : 1 ≤ k) : nI k - (1 : Int32) = nI (k - 1) := by
  obtain ⟨j, rfl⟩ : ∃ j, k = j + 1 := ⟨k - 1, by omega⟩
  rw [← na1, Int32.add_sub_cancel]; rfl
theorem rem_loop (m : Mm) (a w : Int32) : fX9_remembers_b11 2000 m a w 1 = fX9_remembers_b75 (wr (mSh m 40) 0 6 (m 0 6 - 1)) a w := by
  have hm : mSh m 1 = m := by
    funext b i
    exact mSh_ge (by omega)
  have key := down (P := fun f k => 1 ≤ k → fX9_remembers_b11 f (mSh m k) a w (nI k) = fX9_remembers_b75 (wr (mSh m 40) 0 6 (m 0 6 - 1)) a w) 40 ?_ ?_ 39 1 2000 rfl (by decide) (by decide)
  · rw [hm] at key; exact key
  · intro f _
    show fX9_remembers_b11_s (fX9_remembers_b11 f) (mSh m 40) a w (nI 40) = _
    unfold fX9_remembers_b11_s
    rw [if_pos (by decide), wk_eq, mSh_ne (by decide) (by decide) (by decide)]
  · intro f k hk ih h1
    show fX9_remembers_b11_s (fX9_remembers_b11 f) (mSh m k) a w (nI k) = _
    unfold fX9_remembers_b11_s
    rw [if_neg (show ¬ (40 : Int32) ≤ nI k from nI_ge (b := 40) hk (by decide))]
    simp (disch := omega) only [eq_self, l21, l12, l20, na0, Nat.reduceAdd, wk_eq, lk_eq, lkN_eq, bd_eq, bw_eq, gd_nI, nI_clamp, na1, na2, na3, na4, na5, na6, na7, na8, na9, i192, i234, i276, i326, i332, i338, i96, i0, i8, ge6F, ge6T, ge4F, ge4T, ltz, lez, Nat.one_mul, if_true, if_false, one_ne, one_eq0, zero_eq0, wr0_1, glit320, glit321, glit322, glit323, glit324, glit325, glit344, cl320, cl321, cl322, cl323, cl324, cl325, cl344, ns1 h1, wr_b _ _ _ _ (show (4 : Nat) ≠ 3 by decide), wr_b _ _ _ _ (show (5 : Nat) ≠ 3 by decide), wr_b _ _ _ _ (show (5 : Nat) ≠ 4 by decide), mSh_ge, mSh_step]
    exact ih (by omega)
theorem note_sp {n : Nat} {c m : Mm} (h : RH n c m) (hn : n < 512) {key was : Int32} (hv : Vch key was) : ∃ c' m', fX0_note c key was = some (c', ()) ∧ fX9_remembers m key was = some (m', ()) ∧ RH (n + 1) c' m' ∧ (∀ b, b ≠ 37 → b ≠ 38 → b ≠ 39 → c' b = c b) ∧ m' 1 = m 1 ∧ m' 0 8 = m 0 8 ∧ m' 6 = m 6 ∧ m' 7 = m 7 := by
  obtain ⟨t, h1, h2, h3, h4, h5⟩ := h
  have e40 : t % 40 < 40 := Nat.mod_lt _ (by decide)
  refine ⟨wr (wr (wr c 38 (t % 40) key) 39 (t % 40) was) 37 2 (nI (t + 1)), ?_⟩
  have hc : fX0_note c key was = some (wr (wr (wr c 38 (t % 40) key) 39 (t % 40) was) 37 2 (nI (t + 1)), ()) := by
    unfold fX0_note
    simp only [wk_eq, wr_b _ _ _ _ (show (37 : Nat) ≠ 38 by decide), wr_b _ _ _ _ (show (37 : Nat) ≠ 39 by decide), h2]
    rw [rem40 (by omega)]
    simp (disch := omega) only [eq_self, l21, l12, l20, na0, Nat.reduceAdd, wk_eq, lk_eq, lkN_eq, bd_eq, bw_eq, gd_nI, nI_clamp, na1, na2, na3, na4, na5, na6, na7, na8, na9, i192, i234, i276, i326, i332, i338, i96, i0, i8, ge6F, ge6T, ge4F, ge4T, ltz, lez, Nat.one_mul, if_true, if_false, one_ne, one_eq0, zero_eq0, wr0_1, glit320, glit321, glit322, glit323, glit324, glit325, glit344, cl320, cl321, cl322, cl323, cl324, cl325, cl344]
  have hb : ∀ b, b ≠ 37 → b ≠ 38 → b ≠ 39 → wr (wr (wr c 38 (t % 40) key) 39 (t % 40) was) 37 2 (nI (t + 1)) b = c b := fun b h37 h38 h39 => by
    rw [wr_ne _ _ _ h37, wr_ne _ _ _ h39, wr_ne _ _ _ h38]
  have b75 : ∀ (mz : Mm) (k : Nat), k < 40 → mz 0 6 = nI k → mz 0 7 = nI t → fX9_remembers_b75 mz key was = some (wr (wr (wr (wr (wr mz 0 7 (nI (t + 1))) 3 k key) 4 k was) 5 k (nI (t + 1))) 0 6 (nI (k + 1)), ()) := by
    intro mz k hk e6 e7
    unfold fX9_remembers_b75
    simp only [wk_eq, e7, na1, wr_b _ _ _ _ (show (0 : Nat) ≠ 3 by decide), wr_b _ _ _ _ (show (0 : Nat) ≠ 4 by decide), wr_b _ _ _ _ (show (0 : Nat) ≠ 5 by decide), wr_i _ _ _ (show (6 : Nat) ≠ 7 by decide), wr_same, e6]
    simp (disch := omega) only [eq_self, l21, l12, l20, na0, Nat.reduceAdd, wk_eq, lk_eq, lkN_eq, bd_eq, bw_eq, gd_nI, nI_clamp, na1, na2, na3, na4, na5, na6, na7, na8, na9, i192, i234, i276, i326, i332, i338, i96, i0, i8, ge6F, ge6T, ge4F, ge4T, ltz, lez, Nat.one_mul, if_true, if_false, one_ne, one_eq0, zero_eq0, wr0_1, glit320, glit321, glit322, glit323, glit324, glit325, glit344, cl320, cl321, cl322, cl323, cl324, cl325, cl344]
  by_cases ht : t < 40
  · have e0 : min t 40 = t := by omega
    have e1 : t % 40 = t := Nat.mod_eq_of_lt ht
    rw [e0] at h4 h5
    refine ⟨wr (wr (wr (wr (wr m 0 7 (nI (t + 1))) 3 t key) 4 t was) 5 t (nI (t + 1))) 0 6 (nI (t + 1)), hc, ?_, ?_, hb, ?_⟩
    · unfold fX9_remembers
      rw [if_neg]
      · exact b75 m t ht h4 h3
      · rw [h4]; intro e
        have := nI_inj (b := 40) (by omega) (by decide) e
        omega
    · refine ⟨t + 1, by omega, wr_same _ _ _ _, ?_, ?_, ?_⟩
      · rw [wr_i _ _ _ (by decide), wr_b _ _ _ _ (by decide), wr_b _ _ _ _ (by decide), wr_b _ _ _ _ (by decide), wr_same]
      · rw [wr_same, show min (t + 1) 40 = t + 1 by omega]
      · intro j hj
        have z : t + 1 - min (t + 1) 40 + j = j := by omega
        rw [z, wr_b _ _ _ _ (show (3 : Nat) ≠ 0 by decide), wr_b _ _ _ _ (show (4 : Nat) ≠ 0 by decide), wr_b _ _ _ _ (show (5 : Nat) ≠ 0 by decide), wr_b _ _ _ _ (show (3 : Nat) ≠ 5 by decide), wr_b _ _ _ _ (show (3 : Nat) ≠ 4 by decide), wr_b _ _ _ _ (show (4 : Nat) ≠ 5 by decide), wr_b _ _ _ _ (show (38 : Nat) ≠ 37 by decide), wr_b _ _ _ _ (show (38 : Nat) ≠ 39 by decide), wr_b _ _ _ _ (show (39 : Nat) ≠ 37 by decide), Nat.mod_eq_of_lt (show j < 40 by omega), e1]
        by_cases hj2 : j = t
        · rw [hj2, wr_same, wr_same, wr_same, wr_same, wr_same]
          exact ⟨rfl, rfl, rfl, hv⟩
        · have := h5 j (by omega)
          rw [show t - t + j = j by omega, Nat.mod_eq_of_lt (show j < 40 by omega)] at this
          rw [wr_i _ _ _ hj2, wr_i _ _ _ hj2, wr_i _ _ _ hj2, wr_i _ _ _ hj2, wr_i _ _ _ hj2, wr_b _ _ _ _ (show (3 : Nat) ≠ 0 by decide), wr_b _ _ _ _ (show (4 : Nat) ≠ 3 by decide), wr_b _ _ _ _ (show (4 : Nat) ≠ 0 by decide), wr_b _ _ _ _ (show (5 : Nat) ≠ 4 by decide), wr_b _ _ _ _ (show (5 : Nat) ≠ 3 by decide), wr_b _ _ _ _ (show (5 : Nat) ≠ 0 by decide), wr_b _ _ _ _ (show (39 : Nat) ≠ 38 by decide)]
          exact this
    · refine ⟨?_, ?_, ?_, ?_⟩
      · rw [wr_ne _ _ _ (by decide), wr_ne _ _ _ (by decide), wr_ne _ _ _ (by decide), wr_ne _ _ _ (by decide), wr_ne _ _ _ (by decide)]
      · rw [wr_i _ _ _ (by decide), wr_b _ _ _ _ (by decide), wr_b _ _ _ _ (by decide), wr_b _ _ _ _ (by decide), wr_i _ _ _ (by decide)]
      · rw [wr_ne _ _ _ (by decide), wr_ne _ _ _ (by decide), wr_ne _ _ _ (by decide), wr_ne _ _ _ (by decide), wr_ne _ _ _ (by decide)]
      · rw [wr_ne _ _ _ (by decide), wr_ne _ _ _ (by decide), wr_ne _ _ _ (by decide), wr_ne _ _ _ (by decide), wr_ne _ _ _ (by decide)]
  · have e0 : min t 40 = 40 := by omega
    rw [e0] at h4 h5
    refine ⟨wr (wr (wr (wr (wr (wr (mSh m 40) 0 6 (nI 39)) 0 7 (nI (t + 1))) 3 39 key) 4 39 was) 5 39 (nI (t + 1))) 0 6 (nI 40), hc, ?_, ?_, hb, ?_⟩
    · unfold fX9_remembers
      rw [if_pos (by rw [h4]; rfl), rem_loop, h4, ns1 (by decide)]
      exact b75 _ 39 (by decide) (wr_same _ _ _ _) (by rw [wr_i _ _ _ (by decide), mSh_ne (by decide) (by decide) (by decide)]; exact h3)
    · refine ⟨t + 1, by omega, wr_same _ _ _ _, ?_, ?_, ?_⟩
      · rw [wr_i _ _ _ (by decide), wr_b _ _ _ _ (by decide), wr_b _ _ _ _ (by decide), wr_b _ _ _ _ (by decide), wr_same]
      · rw [wr_same, show min (t + 1) 40 = 40 by omega]
      · intro j hj
        have z : t + 1 - min (t + 1) 40 + j = t - 40 + (j + 1) := by omega
        rw [z, wr_b _ _ _ _ (show (3 : Nat) ≠ 0 by decide), wr_b _ _ _ _ (show (4 : Nat) ≠ 0 by decide), wr_b _ _ _ _ (show (5 : Nat) ≠ 0 by decide), wr_b _ _ _ _ (show (3 : Nat) ≠ 5 by decide), wr_b _ _ _ _ (show (3 : Nat) ≠ 4 by decide), wr_b _ _ _ _ (show (4 : Nat) ≠ 5 by decide), wr_b _ _ _ _ (show (38 : Nat) ≠ 37 by decide), wr_b _ _ _ _ (show (38 : Nat) ≠ 39 by decide), wr_b _ _ _ _ (show (39 : Nat) ≠ 37 by decide)]
        by_cases hj2 : j = 39
        · subst hj2
          rw [show (t - 40 + (39 + 1)) % 40 = t % 40 by omega, wr_same, wr_same, wr_same, wr_same, wr_same, show t - 40 + (39 + 1) + 1 = t + 1 by omega]
          exact ⟨rfl, rfl, rfl, hv⟩
        · have := h5 (j + 1) (by omega)
          have hq : (t - 40 + (j + 1)) % 40 ≠ t % 40 := by omega
          rw [wr_i _ _ _ hj2, wr_i _ _ _ hj2, wr_i _ _ _ hj2, wr_i _ _ _ hq, wr_i _ _ _ hq, wr_b _ _ _ _ (show (3 : Nat) ≠ 0 by decide), wr_b _ _ _ _ (show (3 : Nat) ≠ 0 by decide), wr_b _ _ _ _ (show (4 : Nat) ≠ 3 by decide), wr_b _ _ _ _ (show (4 : Nat) ≠ 0 by decide), wr_b _ _ _ _ (show (4 : Nat) ≠ 0 by decide), wr_b _ _ _ _ (show (5 : Nat) ≠ 4 by decide), wr_b _ _ _ _ (show (5 : Nat) ≠ 3 by decide), wr_b _ _ _ _ (show (5 : Nat) ≠ 0 by decide), wr_b _ _ _ _ (show (5 : Nat) ≠ 0 by decide), wr_b _ _ _ _ (show (39 : Nat) ≠ 38 by decide), mSh_lt (by omega) (by omega), mSh_lt (by omega) (by omega), mSh_lt (by omega) (by omega)]
          exact this
    · refine ⟨?_, ?_, ?_, ?_⟩
      · rw [wr_ne _ _ _ (by decide), wr_ne _ _ _ (by decide), wr_ne _ _ _ (by decide), wr_ne _ _ _ (by decide), wr_ne _ _ _ (by decide), wr_ne _ _ _ (by decide), mSh_ne (by decide) (by decide) (by decide)]
      · rw [wr_i _ _ _ (by decide), wr_b _ _ _ _ (by decide), wr_b _ _ _ _ (by decide), wr_b _ _ _ _ (by decide), wr_i _ _ _ (by decide), wr_i _ _ _ (by decide), mSh_ne (by decide) (by decide) (by decide)]
      · rw [wr_ne _ _ _ (by decide), wr_ne _ _ _ (by decide), wr_ne _ _ _ (by decide), wr_ne _ _ _ (by decide), wr_ne _ _ _ (by decide), wr_ne _ _ _ (by decide), mSh_ne (by decide) (by decide) (by decide)]
      · rw [wr_ne _ _ _ (by decide), wr_ne _ _ _ (by decide), wr_ne _ _ _ (by decide), wr_ne _ _ _ (by decide), wr_ne _ _ _ (by decide), wr_ne _ _ _ (by decide), mSh_ne (by decide) (by decide) (by decide)]
