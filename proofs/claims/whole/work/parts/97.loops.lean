/-! PURE: the loops that clear and abort -/
theorem cnt_y {P : Nat → Bool} {k : Nat} (h : P k = true) : nI (fa_cnt P k) + 1 = nI (fa_cnt P (k + 1)) := by rw [na1, fa_cnt_yes h]
theorem cnt_n {P : Nat → Bool} {k : Nat} (h : P k = false) : nI (fa_cnt P k) = nI (fa_cnt P (k + 1)) := by rw [fa_cnt_no h]
theorem dropTag_sp {c : Mm} {q : Nat} {tag x2 : Int32} {P : Nat → Bool} (hP : ∀ k, k < 6 → (P k = true ↔ (¬ c (q + 1 + 1 + k) 0 = 0 ∧ c (q + 1 + 1 + k) 1 = tag ∧ (¬ x2 = 0 ∨ c (q + 1 + 1 + k) 5 &&& 8 = 0)))) : fX5_dropTag c q tag x2 = some (dC (q + 1 + 1) P 6 c, nI (fa_cnt P 6)) := by
  have key := down (P := fun f k => fX5_dropTag_b5 f (dC (q + 1 + 1) P k c) q tag x2 (nI (fa_cnt P k)) (nI k) = some (dC (q + 1 + 1) P 6 c, nI (fa_cnt P 6))) 6 ?_ ?_ 6 0 2000 rfl (by decide)
  · rw [dC_0] at key; exact key
  · intro f; rfl
  · intro f k hk ih
    have L : fX5_dropTag_b5 (f + 1) (dC (q + 1 + 1) P k c) q tag x2 (nI (fa_cnt P k)) (nI k) = fX5_dropTag_b5_s (fX5_dropTag_b5 f) (dC (q + 1 + 1) P k c) q tag x2 (nI (fa_cnt P k)) (nI k) := rfl
    have e : dC (q + 1 + 1) P k c (q + 1 + 1 + k) = c (q + 1 + 1 + k) := dC_out (by omega)
    rw [L]
    unfold fX5_dropTag_b5_s fX3_isGlobal
    simp (disch := omega) only [ge6F, if_false, gd_nI, nI_clamp, lkN_eq, Nat.one_mul, na1 k, e]
    have hp := hP k hk
    by_cases h0 : c (q + 1 + 1 + k) 0 = 0
    · have pf : P k = false := Bool.eq_false_iff.mpr (fun h => (hp.mp h).1 h0)
      rw [if_pos h0, dC_no pf, cnt_n pf]; exact ih
    · rw [if_neg h0]
      by_cases h1 : c (q + 1 + 1 + k) 1 = tag
      · rw [if_pos h1]
        by_cases hx : x2 = 0
        · rw [if_pos hx]
          by_cases hg : c (q + 1 + 1 + k) 5 &&& 8 = 0
          · have pt : P k = true := hp.mpr ⟨h0, h1, Or.inr hg⟩
            rw [if_pos hg, bd_eq, if_pos rfl, wk_eq, dC_yes pt, cnt_y pt]; exact ih
          · have pf : P k = false := Bool.eq_false_iff.mpr (fun h => (hp.mp h).2.2.elim (fun z => z hx) hg)
            rw [if_neg hg, bd_eq, if_neg one_ne, dC_no pf, cnt_n pf]; exact ih
        · have pt : P k = true := hp.mpr ⟨h0, h1, Or.inl hx⟩
          rw [if_neg hx, wk_eq, dC_yes pt, cnt_y pt]; exact ih
      · have pf : P k = false := Bool.eq_false_iff.mpr (fun h => h1 (hp.mp h).2.1)
        rw [if_neg h1, dC_no pf, cnt_n pf]; exact ih
theorem dropAd_sp {c : Mm} {q : Nat} {tag ad : Int32} {P : Nat → Bool} (hP : ∀ k, k < 6 → (P k = true ↔ (¬ c (q + 1 + 1 + k) 0 = 0 ∧ fX8_firstOf ad (c (q + 1 + 1 + k) 2) = c (q + 1 + 1 + k) 3 ∧ (c (q + 1 + 1 + k) 1 = tag ∨ ¬ c (q + 1 + 1 + k) 5 &&& 8 = 0)))) : fX5_dropAddress c q tag ad = some (dC (q + 1 + 1) P 6 c, nI (fa_cnt P 6)) := by
  have key := down (P := fun f k => fX5_dropAddress_b5 f (dC (q + 1 + 1) P k c) q tag ad (nI (fa_cnt P k)) (nI k) = some (dC (q + 1 + 1) P 6 c, nI (fa_cnt P 6))) 6 ?_ ?_ 6 0 2000 rfl (by decide)
  · rw [dC_0] at key; exact key
  · intro f; rfl
  · intro f k hk ih
    have L : fX5_dropAddress_b5 (f + 1) (dC (q + 1 + 1) P k c) q tag ad (nI (fa_cnt P k)) (nI k) = fX5_dropAddress_b5_s (fX5_dropAddress_b5 f) (dC (q + 1 + 1) P k c) q tag ad (nI (fa_cnt P k)) (nI k) := rfl
    have e : dC (q + 1 + 1) P k c (q + 1 + 1 + k) = c (q + 1 + 1 + k) := dC_out (by omega)
    rw [L]
    unfold fX5_dropAddress_b5_s fX3_isGlobal fX3_has
    simp (disch := omega) only [ge6F, if_false, gd_nI, nI_clamp, lkN_eq, Nat.one_mul, na1 k, e]
    have hp := hP k hk
    by_cases h0 : c (q + 1 + 1 + k) 0 = 0
    · have pf : P k = false := Bool.eq_false_iff.mpr (fun h => (hp.mp h).1 h0)
      rw [if_pos h0, bd_eq, if_pos rfl, dC_no pf, cnt_n pf]; exact ih
    · rw [if_neg h0]
      by_cases h1 : fX8_firstOf ad (c (q + 1 + 1 + k) 2) = c (q + 1 + 1 + k) 3
      · rw [if_pos h1, bd_eq, if_neg one_ne]
        by_cases hx : c (q + 1 + 1 + k) 1 = tag
        · have pt : P k = true := hp.mpr ⟨h0, h1, Or.inl hx⟩
          rw [if_pos hx, wk_eq, dC_yes pt, cnt_y pt]; exact ih
        · rw [if_neg hx]
          by_cases hg : c (q + 1 + 1 + k) 5 &&& 8 = 0
          · have pf : P k = false := Bool.eq_false_iff.mpr (fun h => (hp.mp h).2.2.elim hx (fun z => z hg))
            rw [if_pos hg, bd_eq, if_pos rfl, dC_no pf, cnt_n pf]; exact ih
          · have pt : P k = true := hp.mpr ⟨h0, h1, Or.inr hg⟩
            rw [if_neg hg, bd_eq, if_neg one_ne, wk_eq, dC_yes pt, cnt_y pt]; exact ih
      · have pf : P k = false := Bool.eq_false_iff.mpr (fun h => h1 (hp.mp h).2.1)
        rw [if_neg h1, bd_eq, if_pos rfl, dC_no pf, cnt_n pf]; exact ih
theorem held_cnt {c : Mm} {q : Nat} {P : Nat → Bool} (hP : ∀ k, k < 6 → (P k = true ↔ ¬ c (q + 1 + 1 + k) 0 = 0)) : fX5_held c q = some (nI (fa_cnt P 6)) := by
  have key := down (P := fun f k => fX5_held_b4 f c q (nI (fa_cnt P k)) (nI k) = some (nI (fa_cnt P 6))) 6 ?_ ?_ 6 0 2000 rfl (by decide)
  · exact key
  · intro f; rfl
  · intro f k hk ih
    have L : fX5_held_b4 (f + 1) c q (nI (fa_cnt P k)) (nI k) = fX5_held_b4_s (fX5_held_b4 f) c q (nI (fa_cnt P k)) (nI k) := rfl
    rw [L]
    unfold fX5_held_b4_s
    simp (disch := omega) only [ge6F, if_false, gd_nI, nI_clamp, lkN_eq, Nat.one_mul, na1 k]
    by_cases h0 : c (q + 1 + 1 + k) 0 = 0
    · have pf : P k = false := Bool.eq_false_iff.mpr (fun h => (hP k hk).mp h h0)
      rw [if_pos h0, cnt_n pf]; exact ih
    · have pt : P k = true := (hP k hk).mpr h0
      rw [if_neg h0, cnt_y pt]; exact ih
theorem dropAll_sp {c : Mm} {q : Nat} {P : Nat → Bool} (hP : ∀ k, k < 6 → (P k = true ↔ ¬ c (q + 1 + 1 + k) 0 = 0)) : fX5_dropAll c q = some (dC (q + 1 + 1) P 6 c, nI (fa_cnt P 6)) := by
  unfold fX5_dropAll
  rw [held_cnt hP, bd_eq]
  have key := down (P := fun f k => fX5_dropAll_b7 f (dC (q + 1 + 1) P k c) q (nI (fa_cnt P 6)) (nI k) = some (dC (q + 1 + 1) P 6 c, nI (fa_cnt P 6))) 6 ?_ ?_ 6 0 2000 rfl (by decide)
  · rw [dC_0] at key; exact key
  · intro f; rfl
  · intro f k hk ih
    have L : fX5_dropAll_b7 (f + 1) (dC (q + 1 + 1) P k c) q (nI (fa_cnt P 6)) (nI k) = fX5_dropAll_b7_s (fX5_dropAll_b7 f) (dC (q + 1 + 1) P k c) q (nI (fa_cnt P 6)) (nI k) := rfl
    have e : dC (q + 1 + 1) P k c (q + 1 + 1 + k) = c (q + 1 + 1 + k) := dC_out (by omega)
    rw [L]
    unfold fX5_dropAll_b7_s
    simp (disch := omega) only [ge6F, if_false, gd_nI, nI_clamp, lkN_eq, Nat.one_mul, na1 k, wk_eq]
    by_cases h0 : c (q + 1 + 1 + k) 0 = 0
    · have pf : P k = false := Bool.eq_false_iff.mpr (fun h => (hP k hk).mp h h0)
      have : wr (dC (q + 1 + 1) P k c) (q + 1 + 1 + k) 0 0 = dC (q + 1 + 1) P k c := by
        have z := wr_id (dC (q + 1 + 1) P k c) (q + 1 + 1 + k) 0
        rw [e, h0] at z
        exact z
      rw [this, dC_no pf]; exact ih
    · have pt : P k = true := (hP k hk).mpr h0
      rw [dC_yes pt]; exact ih
/-- abort of the k-th walker, as one step of aC -/
theorem abort_st {c : Mm} {Q : Nat → Bool} {k : Nat} (hQ : Q k = true ↔ c (24 + 2 * k) 0 = 1) : fX6_abort (aC Q k c) (24 + 2 * k) = some (aC Q (k + 1) c, ()) := by
  have e : aC Q k c (24 + 2 * k) = c (24 + 2 * k) := aC_out (by omega)
  unfold fX6_abort
  rw [e]
  by_cases h : c (24 + 2 * k) 0 = 1
  · rw [if_pos h, wk_eq, aC_yes (hQ.mpr h)]
  · have qf : Q k = false := Bool.eq_false_iff.mpr (fun z => h (hQ.mp z))
    rw [if_neg h, aC_no qf]
theorem abortW_sp {c : Mm} {tag : Int32} {Q : Nat → Bool} (hQ : ∀ k, k < 4 → (Q k = true ↔ (c (24 + 2 * k) 0 = 1 ∧ c (24 + 2 * k) 4 = tag))) : fX8_abortWalkersOf c tag = some (aC Q 4 c, ()) := by
  have key := down (P := fun f k => fX8_abortWalkersOf_b2 f (aC Q k c) tag (nI k) = some (aC Q 4 c, ())) 4 ?_ ?_ 4 0 2000 rfl (by decide)
  · rw [aC_0] at key; exact key
  · intro f; rfl
  · intro f k hk ih
    have L : fX8_abortWalkersOf_b2 (f + 1) (aC Q k c) tag (nI k) = fX8_abortWalkersOf_b2_s (fX8_abortWalkersOf_b2 f) (aC Q k c) tag (nI k) := rfl
    have e : aC Q k c (24 + 2 * k) = c (24 + 2 * k) := aC_out (by omega)
    rw [L]
    unfold fX8_abortWalkersOf_b2_s
    simp (disch := omega) only [ge4F, if_false, gd_nI, nI_clamp, lkN_eq, Nat.reduceAdd, na1, e]
    by_cases h : c (24 + 2 * k) 4 = tag
    · rw [if_pos h, abort_st ⟨fun z => ((hQ k hk).mp z).1, fun z => (hQ k hk).mpr ⟨z, h⟩⟩, bw_eq]; exact ih
    · have qf : Q k = false := Bool.eq_false_iff.mpr (fun z => h ((hQ k hk).mp z).2)
      rw [if_neg h, aC_no qf]; exact ih
/-- the reference: is it going, abort -/
theorem going_m {m : Mm} {Q : Nat → Bool} {k : Nat} (hk : k < 4) : fX9_isGoing (aM Q k m) (nI k) = if m 1 (276 + 11 * k) = 1 then some 1 else some 0 := by
  unfold fX9_isGoing
  have e : aM Q k m 1 (276 + 11 * k) = m 1 (276 + 11 * k) := aM_out (by omega)
  simp (disch := omega) only [eq_self, l21, l12, l20, na0, Nat.reduceAdd, wk_eq, lk_eq, lkN_eq, bd_eq, bw_eq, gd_nI, nI_clamp, na1, na2, na3, na4, na5, na6, na7, na8, na9, i192, i234, i276, i326, i332, i338, i96, i0, i8, ge6F, ge6T, ge4F, ge4T, ltz, lez, Nat.one_mul, if_true, if_false, one_ne, one_eq0, zero_eq0, wr0_1, glit320, glit321, glit322, glit323, glit324, glit325, glit344, cl320, cl321, cl322, cl323, cl324, cl325, cl344, e]
theorem wof_m {m : Mm} {Q : Nat → Bool} {k j : Nat} (hk : k < 4) (hj : j < 11) : fX9_walkerOf (aM Q k m) (nI k) (nI j) = some (m 1 (276 + 11 * k + j)) := by
  unfold fX9_walkerOf
  have e : aM Q k m 1 (276 + 11 * k + j) = m 1 (276 + 11 * k + j) := aM_out (by omega)
  simp (disch := omega) only [eq_self, l21, l12, l20, na0, Nat.reduceAdd, wk_eq, lk_eq, lkN_eq, bd_eq, bw_eq, gd_nI, nI_clamp, na1, na2, na3, na4, na5, na6, na7, na8, na9, i192, i234, i276, i326, i332, i338, i96, i0, i8, ge6F, ge6T, ge4F, ge4T, ltz, lez, Nat.one_mul, if_true, if_false, one_ne, one_eq0, zero_eq0, wr0_1, glit320, glit321, glit322, glit323, glit324, glit325, glit344, cl320, cl321, cl322, cl323, cl324, cl325, cl344, nI_add, e]
theorem abort_m {m : Mm} {Q : Nat → Bool} {k : Nat} (hk : k < 4) (hQ : Q k = true) : fX9_aborts (aM Q k m) (nI k) = some (aM Q (k + 1) m, ()) := by
  unfold fX9_aborts
  simp (disch := omega) only [eq_self, l21, l12, l20, na0, Nat.reduceAdd, wk_eq, lk_eq, lkN_eq, bd_eq, bw_eq, gd_nI, nI_clamp, na1, na2, na3, na4, na5, na6, na7, na8, na9, i192, i234, i276, i326, i332, i338, i96, i0, i8, ge6F, ge6T, ge4F, ge4T, ltz, lez, Nat.one_mul, if_true, if_false, one_ne, one_eq0, zero_eq0, wr0_1, glit320, glit321, glit322, glit323, glit324, glit325, glit344, cl320, cl321, cl322, cl323, cl324, cl325, cl344]
  rw [aM_yes hQ]
theorem b110_sp {m : Mm} {tag : Int32} {Q : Nat → Bool} (hQ : ∀ k, k < 4 → (Q k = true ↔ (m 1 (276 + 11 * k) = 1 ∧ m 1 (276 + 11 * k + 9) = tag))) : fX9_clearsTag_b110 2000 m tag 0 = some (aM Q 4 m, ()) := by
  have key := down (P := fun f k => fX9_clearsTag_b110 f (aM Q k m) tag (nI k) = some (aM Q 4 m, ())) 4 ?_ ?_ 4 0 2000 rfl (by decide)
  · rw [aM_0] at key; exact key
  · intro f; rfl
  · intro f k hk ih
    have L : fX9_clearsTag_b110 (f + 1) (aM Q k m) tag (nI k) = fX9_clearsTag_b110_s (fX9_clearsTag_b110 f) (aM Q k m) tag (nI k) := rfl
    rw [L]
    unfold fX9_clearsTag_b110_s
    rw [going_m hk, show fX9_walkerOf (aM Q k m) (nI k) 9 = some (m 1 (276 + 11 * k + 9)) from wof_m hk (j := 9) (by decide)]
    simp (disch := omega) only [ge4F, if_false, na1]
    by_cases h : m 1 (276 + 11 * k) = 1
    · rw [if_pos h, bd_eq, if_neg one_ne, bd_eq]
      by_cases h2 : m 1 (276 + 11 * k + 9) = tag
      · rw [if_pos h2, abort_m hk ((hQ k hk).mpr ⟨h, h2⟩), bw_eq]; exact ih
      · have qf : Q k = false := Bool.eq_false_iff.mpr (fun z => h2 ((hQ k hk).mp z).2)
        rw [if_neg h2, aM_no qf]; exact ih
    · have qf : Q k = false := Bool.eq_false_iff.mpr (fun z => h ((hQ k hk).mp z).1)
      rw [if_neg h, bd_eq, if_pos rfl, aM_no qf]; exact ih
theorem b137_sp {m : Mm} {tag acc : Int32} {Q : Nat → Bool} (hQ : ∀ k, k < 4 → (Q k = true ↔ (m 1 (276 + 11 * k) = 1 ∧ m 1 (276 + 11 * k + 9) = tag))) : fX9_fenceSpace_b137 2000 m tag acc 0 = some (aM Q 4 m, acc) := by
  have key := down (P := fun f k => fX9_fenceSpace_b137 f (aM Q k m) tag acc (nI k) = some (aM Q 4 m, acc)) 4 ?_ ?_ 4 0 2000 rfl (by decide)
  · rw [aM_0] at key; exact key
  · intro f; rfl
  · intro f k hk ih
    have L : fX9_fenceSpace_b137 (f + 1) (aM Q k m) tag acc (nI k) = fX9_fenceSpace_b137_s (fX9_fenceSpace_b137 f) (aM Q k m) tag acc (nI k) := rfl
    rw [L]
    unfold fX9_fenceSpace_b137_s
    rw [going_m hk, show fX9_walkerOf (aM Q k m) (nI k) 9 = some (m 1 (276 + 11 * k + 9)) from wof_m hk (j := 9) (by decide)]
    simp (disch := omega) only [ge4F, if_false, na1]
    by_cases h : m 1 (276 + 11 * k) = 1
    · rw [if_pos h, bd_eq, if_neg one_ne, bd_eq]
      by_cases h2 : m 1 (276 + 11 * k + 9) = tag
      · rw [if_pos h2, abort_m hk ((hQ k hk).mpr ⟨h, h2⟩), bw_eq]; exact ih
      · have qf : Q k = false := Bool.eq_false_iff.mpr (fun z => h2 ((hQ k hk).mp z).2)
        rw [if_neg h2, aM_no qf]; exact ih
    · have qf : Q k = false := Bool.eq_false_iff.mpr (fun z => h ((hQ k hk).mp z).1)
      rw [if_neg h, bd_eq, if_pos rfl, aM_no qf]; exact ih
theorem b61_sp {m : Mm} {acc : Int32} {Q : Nat → Bool} (hQ : ∀ k, k < 4 → (Q k = true ↔ m 1 (276 + 11 * k) = 1)) : fX9_fenceAll_b61 2000 m acc 0 = some (aM Q 4 m, acc) := by
  have key := down (P := fun f k => fX9_fenceAll_b61 f (aM Q k m) acc (nI k) = some (aM Q 4 m, acc)) 4 ?_ ?_ 4 0 2000 rfl (by decide)
  · rw [aM_0] at key; exact key
  · intro f; rfl
  · intro f k hk ih
    have L : fX9_fenceAll_b61 (f + 1) (aM Q k m) acc (nI k) = fX9_fenceAll_b61_s (fX9_fenceAll_b61 f) (aM Q k m) acc (nI k) := rfl
    rw [L]
    unfold fX9_fenceAll_b61_s
    rw [going_m hk]
    simp (disch := omega) only [ge4F, if_false, na1]
    by_cases h : m 1 (276 + 11 * k) = 1
    · rw [if_pos h, bd_eq, if_neg one_ne, abort_m hk ((hQ k hk).mpr h), bw_eq]; exact ih
    · have qf : Q k = false := Bool.eq_false_iff.mpr (fun z => h ((hQ k hk).mp z))
      rw [if_neg h, bd_eq, if_pos rfl, aM_no qf]; exact ih
theorem b175_sp {m : Mm} {ad tag acc : Int32} {Q : Nat → Bool} (hQ : ∀ k, k < 4 → (Q k = true ↔ (m 1 (276 + 11 * k) = 1 ∧ (m 1 (276 + 11 * k + 9) = tag ∨ m 1 (276 + 11 * k + 1) = ad)))) : fX9_fence_b175 2000 m ad tag acc 0 = some (aM Q 4 m, acc) := by
  have key := down (P := fun f k => fX9_fence_b175 f (aM Q k m) ad tag acc (nI k) = some (aM Q 4 m, acc)) 4 ?_ ?_ 4 0 2000 rfl (by decide)
  · rw [aM_0] at key; exact key
  · intro f; rfl
  · intro f k hk ih
    have L : fX9_fence_b175 (f + 1) (aM Q k m) ad tag acc (nI k) = fX9_fence_b175_s (fX9_fence_b175 f) (aM Q k m) ad tag acc (nI k) := rfl
    rw [L]
    unfold fX9_fence_b175_s
    rw [going_m hk, show fX9_walkerOf (aM Q k m) (nI k) 9 = some (m 1 (276 + 11 * k + 9)) from wof_m hk (j := 9) (by decide), show fX9_walkerOf (aM Q k m) (nI k) 1 = some (m 1 (276 + 11 * k + 1)) from wof_m hk (j := 1) (by decide)]
    simp (disch := omega) only [ge4F, if_false, na1]
    by_cases h : m 1 (276 + 11 * k) = 1
    · rw [if_pos h, bd_eq, if_neg one_ne, bd_eq, bd_eq]
      by_cases h2 : m 1 (276 + 11 * k + 9) = tag
      · rw [if_pos h2, abort_m hk ((hQ k hk).mpr ⟨h, Or.inl h2⟩), bw_eq]; exact ih
      · rw [if_neg h2]
        by_cases h3 : m 1 (276 + 11 * k + 1) = ad
        · rw [if_pos h3, abort_m hk ((hQ k hk).mpr ⟨h, Or.inr h3⟩), bw_eq]; exact ih
        · have qf : Q k = false := Bool.eq_false_iff.mpr (fun z => ((hQ k hk).mp z).2.elim h2 h3)
          rw [if_neg h3, aM_no qf]; exact ih
    · have qf : Q k = false := Bool.eq_false_iff.mpr (fun z => h ((hQ k hk).mp z).1)
      rw [if_neg h, bd_eq, if_pos rfl, aM_no qf]; exact ih
