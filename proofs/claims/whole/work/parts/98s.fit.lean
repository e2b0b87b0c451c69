/-! PURE: what fits an address -/
/-- what fits, by the reference's row -/
def Fit (a tg k : Nat) (m : Mm) : Prop := (¬ m 1 (192 + 7 * k) = -1 ∧ fX8_firstOf (nI a) (m 1 (192 + 7 * k + 1)) = m 1 (192 + 7 * k + 2)) ∧ (m 1 (192 + 7 * k) = nI tg ∨ ¬ m 1 (192 + 7 * k + 4) &&& 8 = 0)
def Srv (wa k : Nat) (m : Mm) : Prop := nI wa &&& (m 1 (192 + 7 * k + 4) ^^^ -1) = 0 ∧ (nI wa &&& 1 = 0 ∨ m 1 (192 + 7 * k + 5) = 1)
theorem fits_m {m : Mm} {a tg s k : Nat} (hk : k < 6) (ha : a < 512) (hP : PlOk m (192 + 7 * k)) (hs : s < 6) (hcur : m 1 344 = nI s) (ht : m 1 (332 + s) = nI tg) : (fX9_fits m (nI (192 + 7 * k)) (nI a) = some 1 ∧ Fit a tg k m) ∨ (fX9_fits m (nI (192 + 7 * k)) (nI a) = some 0 ∧ ¬ Fit a tg k m) := by
  unfold fX9_fits Fit
  rcases under_eq (A := 192 + 7 * k) (by omega) ha hP with ⟨u1, u2, u3⟩ | ⟨u1, u2⟩
  · rw [u1, bd_eq, if_neg one_ne]
    simp (disch := omega) only [eq_self, l21, l12, l20, na0, Nat.reduceAdd, wk_eq, lk_eq, lkN_eq, bd_eq, bw_eq, gd_nI, nI_clamp, na1, na2, na3, na4, na5, na6, na7, na8, na9, i192, i234, i276, i326, i332, i338, i96, i0, i8, ge6F, ge6T, ge4F, ge4T, ltz, lez, Nat.one_mul, if_true, if_false, one_ne, one_eq0, zero_eq0, wr0_1, glit320, glit321, glit322, glit323, glit324, glit325, glit344, cl320, cl321, cl322, cl323, cl324, cl325, cl344, hcur, ht]
    by_cases h1 : m 1 (192 + 7 * k) = nI tg
    · rw [if_pos h1]
      exact Or.inl ⟨rfl, ⟨u2, u3⟩, Or.inl h1⟩
    · rw [if_neg h1]
      by_cases h2 : m 1 (192 + 7 * k + 4) &&& 8 = 0
      · rw [if_pos h2]
        exact Or.inr ⟨rfl, fun z => z.2.elim h1 (fun y => y h2)⟩
      · rw [if_neg h2]
        exact Or.inl ⟨rfl, ⟨u2, u3⟩, Or.inr h2⟩
  · rw [u1, bd_eq, if_pos rfl]
    exact Or.inr ⟨rfl, fun z => u2 z.1⟩
/-- the class's side, where a place is as the reference has it -/
theorem fits_c {c : Mm} {a tg s p : Nat} {Q : Prop} (hs : s < 6) (h3 : c 3 4 = nI s) (h5 : c 5 s = nI tg) (hQ : (¬ c p 0 = 0 ∧ fX8_firstOf (nI a) (c p 2) = c p 3 ∧ (c p 1 = nI tg ∨ ¬ c p 5 &&& 8 = 0)) ↔ Q) : (fX8_fits c p (nI a) = some 1 ∧ Q) ∨ (fX8_fits c p (nI a) = some 0 ∧ ¬ Q) := by
  have tn : fX4_tagNow c = some (nI tg) := by
    unfold fX4_tagNow
    rw [h3, if_neg (by rw [m1ne (by omega)]; exact id), gd_nI hs (by decide), nI_clamp (by omega), h5]
  unfold fX8_fits fX3_has fX3_isGlobal
  rw [tn]
  by_cases h0 : c p 0 = 0
  · rw [if_pos h0, bd_eq, if_pos rfl]
    exact Or.inr ⟨rfl, fun z => (hQ.mpr z).1 h0⟩
  · rw [if_neg h0]
    by_cases h1 : fX8_firstOf (nI a) (c p 2) = c p 3
    · rw [if_pos h1, bd_eq, if_neg one_ne, bd_eq]
      by_cases h2 : c p 1 = nI tg
      · rw [if_pos h2]
        exact Or.inl ⟨rfl, hQ.mp ⟨h0, h1, Or.inl h2⟩⟩
      · rw [if_neg h2]
        by_cases h4 : c p 5 &&& 8 = 0
        · rw [if_pos h4, bd_eq, if_pos rfl]
          exact Or.inr ⟨rfl, fun z => (hQ.mpr z).2.2.elim h2 (fun y => y h4)⟩
        · rw [if_neg h4, bd_eq, if_neg one_ne]
          exact Or.inl ⟨rfl, hQ.mp ⟨h0, h1, Or.inr h4⟩⟩
    · rw [if_neg h1, bd_eq, if_pos rfl]
      exact Or.inr ⟨rfl, fun z => h1 (hQ.mpr z).2.1⟩
/-- the class's latest that fits and serves -/
theorem latest_c {c : Mm} {a wa tg s : Nat} {F S : Nat → Prop} (hs : s < 6) (h3 : c 3 4 = nI s) (h5 : c 5 s = nI tg) (hF : ∀ k, k < 6 → ((¬ c (9 + k) 0 = 0 ∧ fX8_firstOf (nI a) (c (9 + k) 2) = c (9 + k) 3 ∧ (c (9 + k) 1 = nI tg ∨ ¬ c (9 + k) 5 &&& 8 = 0)) ↔ F k)) (hS : ∀ k, k < 6 → F k → (S k ↔ (nI wa &&& (c (9 + k) 5 ^^^ -1) = 0 ∧ (nI wa &&& 1 = 0 ∨ c (9 + k) 6 = 1)))) : (fX8_latestFit c (nI a) (nI wa) = some none ∧ ∀ j, j < 6 → F j → ¬ S j) ∨ ∃ k, k < 6 ∧ fX8_latestFit c (nI a) (nI wa) = some (some (9 + k)) ∧ F k ∧ S k ∧ ∀ j, j < 6 → F j → S j → c (9 + j) 7 ≤ c (9 + k) 7 := by
  have key := down (P := fun fu k => ∀ o : Option Nat, ((o = none ∧ ∀ j, j < k → F j → ¬ S j) ∨ ∃ z, z < k ∧ o = some (9 + z) ∧ F z ∧ S z ∧ ∀ j, j < k → F j → S j → c (9 + j) 7 ≤ c (9 + z) 7) → (fX8_latestFit_b5 fu c (nI a) (nI wa) o (nI k) = some none ∧ ∀ j, j < 6 → F j → ¬ S j) ∨ ∃ k', k' < 6 ∧ fX8_latestFit_b5 fu c (nI a) (nI wa) o (nI k) = some (some (9 + k')) ∧ F k' ∧ S k' ∧ ∀ j, j < 6 → F j → S j → c (9 + j) 7 ≤ c (9 + k') 7) 6 ?_ ?_ 6 0 2000 rfl (by decide) none (Or.inl ⟨rfl, fun j hj => by omega⟩)
  · exact key
  · intro fu o h
    have L : fX8_latestFit_b5 (fu + 1) c (nI a) (nI wa) o (nI 6) = fX8_latestFit_b5_s (fX8_latestFit_b5 fu) c (nI a) (nI wa) o (nI 6) := rfl
    rw [L]
    unfold fX8_latestFit_b5_s
    rcases h with ⟨rfl, h⟩ | ⟨z, hz, rfl, h⟩
    · rw [oc_none, if_pos (by decide)]
      exact Or.inl ⟨rfl, h⟩
    · rw [oc_some _ _ (isPl9 z hz), if_pos (by decide)]
      exact Or.inr ⟨z, hz, rfl, h⟩
  · intro fu k hk ih o h
    have L : fX8_latestFit_b5 (fu + 1) c (nI a) (nI wa) o (nI k) = fX8_latestFit_b5_s (fX8_latestFit_b5 fu) c (nI a) (nI wa) o (nI k) := rfl
    have sv : F k → (fX3_serves c (9 + k) (nI wa) = some 1 ∧ S k) ∨ (fX3_serves c (9 + k) (nI wa) = some 0 ∧ ¬ S k) := fun hf => by
      rw [hS k hk hf]
      unfold fX3_serves
      by_cases h1 : nI wa &&& (c (9 + k) 5 ^^^ -1) = 0
      · rw [if_pos h1]
        by_cases h2 : nI wa &&& 1 = 0
        · rw [if_pos h2]
          exact Or.inl ⟨rfl, h1, Or.inl h2⟩
        · rw [if_neg h2]
          by_cases h4 : c (9 + k) 6 = 1
          · rw [if_pos h4]
            exact Or.inl ⟨rfl, h1, Or.inr h4⟩
          · rw [if_neg h4]
            exact Or.inr ⟨rfl, fun z => z.2.elim h2 h4⟩
      · rw [if_neg h1]
        exact Or.inr ⟨rfl, fun z => h1 z.1⟩
    rw [L]
    unfold fX8_latestFit_b5_s
    have c6 : ¬ (6 : Int32) ≤ nI k := by rw [ge6F hk]; exact id
    rcases h with ⟨rfl, h⟩ | ⟨z, hz, rfl, h1, h2, h6⟩
    · rw [oc_none, if_neg c6, gd_nI hk (by decide), nI_clamp (by omega), lkN_eq, Nat.one_mul, na1]
      rcases fits_c (p := 9 + k) (a := a) hs h3 h5 (hF k hk) with ⟨f1, f2⟩ | ⟨f1, f2⟩
      · rw [show 8 + 1 + k = 9 + k from rfl, f1, bd_eq, if_neg one_ne]
        rcases sv f2 with ⟨s1, s2⟩ | ⟨s1, s2⟩
        · rw [s1, bd_eq, if_neg one_ne]
          refine ih _ (Or.inr ⟨k, by omega, rfl, f2, s2, fun j hj hf hs => ?_⟩)
          by_cases e : j = k
          · subst e; exact le_rf _
          · exact absurd hs (h j (by omega) hf)
        · rw [s1, bd_eq, if_pos rfl]
          refine ih _ (Or.inl ⟨rfl, fun j hj hf => ?_⟩)
          by_cases e : j = k
          · subst e; exact s2
          · exact h j (by omega) hf
      · rw [show 8 + 1 + k = 9 + k from rfl, f1, bd_eq, if_pos rfl]
        refine ih _ (Or.inl ⟨rfl, fun j hj hf => ?_⟩)
        by_cases e : j = k
        · subst e; exact absurd hf f2
        · exact h j (by omega) hf
    · rw [oc_some _ _ (isPl9 z (by omega)), if_neg c6, gd_nI hk (by decide), nI_clamp (by omega), lkN_eq, Nat.one_mul, na1]
      rcases fits_c (p := 9 + k) (a := a) hs h3 h5 (hF k hk) with ⟨f1, f2⟩ | ⟨f1, f2⟩
      · rw [show 8 + 1 + k = 9 + k from rfl, f1, bd_eq, if_neg one_ne]
        rcases sv f2 with ⟨s1, s2⟩ | ⟨s1, s2⟩
        · rw [s1, bd_eq, if_neg one_ne]
          by_cases hu : c (9 + k) 7 ≤ c (9 + z) 7
          · rw [if_pos hu]
            refine ih _ (Or.inr ⟨z, by omega, rfl, h1, h2, fun j hj hf hs => ?_⟩)
            by_cases e : j = k
            · subst e; exact hu
            · exact h6 j (by omega) hf hs
          · rw [if_neg hu]
            refine ih _ (Or.inr ⟨k, by omega, rfl, f2, s2, fun j hj hf hs => ?_⟩)
            by_cases e : j = k
            · subst e; exact le_rf _
            · exact le_tr (h6 j (by omega) hf hs) (le_of_nle hu)
        · rw [s1, bd_eq, if_pos rfl]
          refine ih _ (Or.inr ⟨z, by omega, rfl, h1, h2, fun j hj hf hs => ?_⟩)
          by_cases e : j = k
          · subst e; exact absurd hs s2
          · exact h6 j (by omega) hf hs
      · rw [show 8 + 1 + k = 9 + k from rfl, f1, bd_eq, if_pos rfl]
        refine ih _ (Or.inr ⟨z, by omega, rfl, h1, h2, fun j hj hf hs => ?_⟩)
        by_cases e : j = k
        · subst e; exact absurd hf f2
        · exact h6 j (by omega) hf hs
/-- what is cleared -/
theorem clear_n {c : Mm} {a tg s : Nat} {P : Nat → Bool} (hs : s < 6) (h3 : c 3 4 = nI s) (h5 : c 5 s = nI tg) (hF : ∀ k, k < 6 → ((¬ c (9 + k) 0 = 0 ∧ fX8_firstOf (nI a) (c (9 + k) 2) = c (9 + k) 3 ∧ (c (9 + k) 1 = nI tg ∨ ¬ c (9 + k) 5 &&& 8 = 0)) ↔ P k = true)) : fX8_clearFitsUsedLater c (nI a) none = some (dC 9 P 6 c, ()) := by
  unfold fX8_clearFitsUsedLater
  rw [oc_none]
  have key := down (P := fun f k => fX8_clearFitsUsedLater_b2 f (dC 9 P k c) (nI a) none (nI k) = some (dC 9 P 6 c, ())) 6 ?_ ?_ 6 0 2000 rfl (by decide)
  · rw [dC_0] at key; exact key
  · intro f; rfl
  · intro f k hk ih
    have L : fX8_clearFitsUsedLater_b2 (f + 1) (dC 9 P k c) (nI a) none (nI k) = fX8_clearFitsUsedLater_b2_s (fX8_clearFitsUsedLater_b2 f) (dC 9 P k c) (nI a) none (nI k) := rfl
    rw [L]
    unfold fX8_clearFitsUsedLater_b2_s
    have e : dC 9 P k c (9 + k) = c (9 + k) := dC_out (by omega)
    rw [oc_none, if_neg (by rw [ge6F hk]; exact id), gd_nI hk (by decide), nI_clamp (by omega), lkN_eq, Nat.one_mul, na1, show 8 + 1 + k = 9 + k from rfl]
    rcases fits_c (c := dC 9 P k c) (Q := P k = true) (p := 9 + k) (a := a) (s := s) (tg := tg) hs (by rw [dC_out (by omega)]; exact h3) (by rw [dC_out (by omega)]; exact h5) (by rw [e]; exact hF k hk) with ⟨f1, f2⟩ | ⟨f1, f2⟩
    · rw [f1, bd_eq, if_neg one_ne, wk_eq, dC_yes f2]; exact ih
    · rw [f1, bd_eq, if_pos rfl, dC_no (Bool.eq_false_iff.mpr f2)]; exact ih
theorem clear_s {c : Mm} {a tg s z : Nat} {F : Nat → Prop} {P : Nat → Bool} (hs : s < 6) (hz : z < 6) (h3 : c 3 4 = nI s) (h5 : c 5 s = nI tg) (hF : ∀ k, k < 6 → ((¬ c (9 + k) 0 = 0 ∧ fX8_firstOf (nI a) (c (9 + k) 2) = c (9 + k) 3 ∧ (c (9 + k) 1 = nI tg ∨ ¬ c (9 + k) 5 &&& 8 = 0)) ↔ F k)) (hP : ∀ k, k < 6 → (P k = true ↔ (F k ∧ ¬ c (9 + k) 7 ≤ c (9 + z) 7))) : fX8_clearFitsUsedLater c (nI a) (some (9 + z)) = some (dC 9 P 6 c, ()) := by
  unfold fX8_clearFitsUsedLater
  rw [oc_some _ _ (isPl9 z hz)]
  have key := down (P := fun f k => fX8_clearFitsUsedLater_b2 f (dC 9 P k c) (nI a) (some (9 + z)) (nI k) = some (dC 9 P 6 c, ())) 6 ?_ ?_ 6 0 2000 rfl (by decide)
  · rw [dC_0] at key; exact key
  · intro f
    have L : fX8_clearFitsUsedLater_b2 (f + 1) (dC 9 P 6 c) (nI a) (some (9 + z)) (nI 6) = fX8_clearFitsUsedLater_b2_s (fX8_clearFitsUsedLater_b2 f) (dC 9 P 6 c) (nI a) (some (9 + z)) (nI 6) := rfl
    rw [L]
    unfold fX8_clearFitsUsedLater_b2_s
    rw [oc_some _ _ (isPl9 z hz), if_pos (by decide)]
  · intro f k hk ih
    have L : fX8_clearFitsUsedLater_b2 (f + 1) (dC 9 P k c) (nI a) (some (9 + z)) (nI k) = fX8_clearFitsUsedLater_b2_s (fX8_clearFitsUsedLater_b2 f) (dC 9 P k c) (nI a) (some (9 + z)) (nI k) := rfl
    rw [L]
    unfold fX8_clearFitsUsedLater_b2_s
    have e : dC 9 P k c (9 + k) = c (9 + k) := dC_out (by omega)
    rw [oc_some _ _ (isPl9 z hz), if_neg (by rw [ge6F hk]; exact id), gd_nI hk (by decide), nI_clamp (by omega), lkN_eq, Nat.one_mul, na1, show 8 + 1 + k = 9 + k from rfl]
    rcases fits_c (c := dC 9 P k c) (Q := F k) (p := 9 + k) (a := a) (s := s) (tg := tg) hs (by rw [dC_out (by omega)]; exact h3) (by rw [dC_out (by omega)]; exact h5) (by rw [e]; exact hF k hk) with ⟨f1, f2⟩ | ⟨f1, f2⟩
    · rw [f1, bd_eq, if_neg one_ne, dC_i (by decide), dC_i (by decide)]
      by_cases hu : c (9 + k) 7 ≤ c (9 + z) 7
      · rw [if_pos hu, dC_no (Bool.eq_false_iff.mpr (fun h => ((hP k hk).mp h).2 hu))]; exact ih
      · rw [if_neg hu, wk_eq, dC_yes ((hP k hk).mpr ⟨f2, hu⟩)]; exact ih
    · rw [f1, bd_eq, if_pos rfl, dC_no (Bool.eq_false_iff.mpr (fun h => f2 ((hP k hk).mp h).1))]; exact ih
/-- the reference's latest that fits -/
theorem latest_m {m : Mm} {a tg s : Nat} (ha : a < 512) (hP : ∀ k, k < 6 → PlOk m (192 + 7 * k)) (hs : s < 6) (hcur : m 1 344 = nI s) (ht : m 1 (332 + s) = nI tg) : (fX9_latestThatFits m (nI a) = some (-1) ∧ ∀ j, j < 6 → ¬ Fit a tg j m) ∨ ∃ k, k < 6 ∧ fX9_latestThatFits m (nI a) = some (nI (192 + 7 * k)) ∧ Fit a tg k m ∧ ∀ j, j < 6 → Fit a tg j m → m 1 (192 + 7 * j + 6) ≤ m 1 (192 + 7 * k + 6) := by
  have key := down (P := fun fu k => ∀ o : Int32, ((o = -1 ∧ ∀ j, j < k → ¬ Fit a tg j m) ∨ ∃ z, z < k ∧ o = nI (192 + 7 * z) ∧ Fit a tg z m ∧ ∀ j, j < k → Fit a tg j m → m 1 (192 + 7 * j + 6) ≤ m 1 (192 + 7 * z + 6)) → (fX9_latestThatFits_b4 fu m (nI a) o (nI k) = some (-1) ∧ ∀ j, j < 6 → ¬ Fit a tg j m) ∨ ∃ k', k' < 6 ∧ fX9_latestThatFits_b4 fu m (nI a) o (nI k) = some (nI (192 + 7 * k')) ∧ Fit a tg k' m ∧ ∀ j, j < 6 → Fit a tg j m → m 1 (192 + 7 * j + 6) ≤ m 1 (192 + 7 * k' + 6)) 6 ?_ ?_ 6 0 2000 rfl (by decide) (-1) (Or.inl ⟨rfl, fun j hj => by omega⟩)
  · exact key
  · intro fu o h
    have L : fX9_latestThatFits_b4 (fu + 1) m (nI a) o (nI 6) = fX9_latestThatFits_b4_s (fX9_latestThatFits_b4 fu) m (nI a) o (nI 6) := rfl
    rw [L]
    unfold fX9_latestThatFits_b4_s
    rw [if_pos (by decide)]
    rcases h with ⟨rfl, h⟩ | ⟨z, hz, rfl, h⟩
    · exact Or.inl ⟨rfl, h⟩
    · exact Or.inr ⟨z, hz, rfl, h⟩
  · intro fu k hk ih o h
    have L : fX9_latestThatFits_b4 (fu + 1) m (nI a) o (nI k) = fX9_latestThatFits_b4_s (fX9_latestThatFits_b4 fu) m (nI a) o (nI k) := rfl
    rw [L]
    unfold fX9_latestThatFits_b4_s
    rw [if_neg (by rw [ge6F hk]; exact id), lk_eq, i192, na1]
    rcases fits_m hk ha (hP k hk) hs hcur ht with ⟨f1, f2⟩ | ⟨f1, f2⟩
    · rw [f1, bd_eq, if_neg one_ne]
      rcases h with ⟨rfl, h⟩ | ⟨z, hz, rfl, h1, h2⟩
      · rw [if_pos (by decide)]
        refine ih _ (Or.inr ⟨k, by omega, rfl, f2, fun j hj hf => ?_⟩)
        by_cases e : j = k
        · subst e; exact le_rf _
        · exact absurd hf (h j (by omega))
      · rw [if_neg (nI_pos (by omega)), na6, na6, gd_nI (by omega) (by decide), gd_nI (by omega) (by decide), nI_clamp (by omega), nI_clamp (by omega)]
        by_cases hu : m 1 (192 + 7 * k + 6) ≤ m 1 (192 + 7 * z + 6)
        · rw [if_pos hu]
          refine ih _ (Or.inr ⟨z, by omega, rfl, h1, fun j hj hf => ?_⟩)
          by_cases e : j = k
          · subst e; exact hu
          · exact h2 j (by omega) hf
        · rw [if_neg hu]
          refine ih _ (Or.inr ⟨k, by omega, rfl, f2, fun j hj hf => ?_⟩)
          by_cases e : j = k
          · subst e; exact le_rf _
          · exact le_tr (h2 j (by omega) hf) (le_of_nle hu)
    · rw [f1, bd_eq, if_pos rfl]
      refine ih _ ?_
      rcases h with ⟨rfl, h⟩ | ⟨z, hz, rfl, h1, h2⟩
      · refine Or.inl ⟨rfl, fun j hj => ?_⟩
        by_cases e : j = k
        · subst e; exact f2
        · exact h j (by omega)
      · refine Or.inr ⟨z, by omega, rfl, h1, fun j hj hf => ?_⟩
        by_cases e : j = k
        · subst e; exact absurd hf f2
        · exact h2 j (by omega) hf
