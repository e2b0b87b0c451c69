/-! PURE: fenceSpace, fence -/
theorem cnt2' {P1 P2 : Nat → Bool} {k : Nat} : nI (fa_cnt P1 k + fa_cnt P2 k) + nI (if P1 k = true then 1 else 0) + nI (if P2 k = true then 1 else 0) = nI (fa_cnt P1 (k + 1) + fa_cnt P2 (k + 1)) := by
  rw [← cnt2, Int32.add_assoc]
theorem glob_m {m : Mm} {A : Nat} (hA : A + 4 < 345) : fX9_isGlobal m (nI A) = if m 1 (A + 4) &&& 8 = 0 then some 0 else some 1 := by
  unfold fX9_isGlobal
  simp (disch := omega) only [eq_self, l21, l12, l20, na0, Nat.reduceAdd, wk_eq, lk_eq, lkN_eq, bd_eq, bw_eq, gd_nI, nI_clamp, na1, na2, na3, na4, na5, na6, na7, na8, na9, i192, i234, i276, i326, i332, i338, i96, i0, i8, ge6F, ge6T, ge4F, ge4T, ltz, lez, Nat.one_mul, if_true, if_false, one_ne, one_eq0, zero_eq0, wr0_1, glit320, glit321, glit322, glit323, glit324, glit325, glit344, cl320, cl321, cl322, cl323, cl324, cl325, cl344]
theorem b40_sp {m : Mm} {tag : Int32} {P1 P2 : Nat → Bool} {r : Mm × Int32} (h1 : ∀ k, k < 6 → Vn 3 (m 1 (192 + 7 * k))) (h2 : ∀ k, k < 6 → Vn 3 (m 1 (234 + 7 * k))) (hP1 : ∀ k, k < 6 → (P1 k = true ↔ (¬ m 1 (192 + 7 * k) = -1 ∧ m 1 (192 + 7 * k) = tag ∧ m 1 (192 + 7 * k + 4) &&& 8 = 0))) (hP2 : ∀ k, k < 6 → (P2 k = true ↔ (¬ m 1 (234 + 7 * k) = -1 ∧ m 1 (234 + 7 * k) = tag))) (hend : fX9_fenceSpace_b137 2000 (dM 234 P2 6 (dM 192 P1 6 m)) tag (nI (fa_cnt P1 6 + fa_cnt P2 6)) 0 = some r) : fX9_fenceSpace_b40 2000 m tag 0 0 = some r := by
  have key := down (P := fun f k => fX9_fenceSpace_b40 f (dM 234 P2 k (dM 192 P1 k m)) tag (nI (fa_cnt P1 k + fa_cnt P2 k)) (nI k) = some r) 6 ?_ ?_ 6 0 2000 rfl (by decide)
  · rw [dM_0, dM_0] at key; exact key
  · intro f
    have L : fX9_fenceSpace_b40 (f + 1) (dM 234 P2 6 (dM 192 P1 6 m)) tag (nI (fa_cnt P1 6 + fa_cnt P2 6)) (nI 6) = fX9_fenceSpace_b40_s (fX9_fenceSpace_b40 f) (dM 234 P2 6 (dM 192 P1 6 m)) tag (nI (fa_cnt P1 6 + fa_cnt P2 6)) (nI 6) := rfl
    rw [L]
    unfold fX9_fenceSpace_b40_s
    rw [if_pos (by decide)]
    exact hend
  · intro f k hk ih
    have L : fX9_fenceSpace_b40 (f + 1) (dM 234 P2 k (dM 192 P1 k m)) tag (nI (fa_cnt P1 k + fa_cnt P2 k)) (nI k) = fX9_fenceSpace_b40_s (fX9_fenceSpace_b40 f) (dM 234 P2 k (dM 192 P1 k m)) tag (nI (fa_cnt P1 k + fa_cnt P2 k)) (nI k) := rfl
    rw [L]
    have e1 : dM 234 P2 k m 1 (192 + 7 * k) = m 1 (192 + 7 * k) := dM_out (by omega)
    have e2 : dM 192 P1 (k + 1) m 1 (234 + 7 * k) = m 1 (234 + 7 * k) := dM_out (by omega)
    have e3 : dM 234 P2 k (dM 192 P1 k m) 1 (192 + 7 * k) = m 1 (192 + 7 * k) := by rw [dM_out (by omega), dM_out (by omega)]
    have e4 : dM 234 P2 k (dM 192 P1 k m) 1 (192 + 7 * k + 4) = m 1 (192 + 7 * k + 4) := by rw [dM_out (by omega), dM_out (by omega)]
    have e5 : dM 234 P2 k (dM 192 P1 (k + 1) m) 1 (234 + 7 * k) = m 1 (234 + 7 * k) := by rw [dM_out (by omega), dM_out (by omega)]
    have b98 : ∀ is : Int32, (P1 k = true ↔ (¬ m 1 (192 + 7 * k) = -1 ∧ ¬ is = 0)) → fX9_fenceSpace_b98 (fX9_fenceSpace_b40 f) (dM 234 P2 k (dM 192 P1 k m)) tag (nI k) (nI (234 + 7 * k)) (nI (fa_cnt P1 k + fa_cnt P2 k)) (nI (192 + 7 * k)) is = some r := by
      intro is his
      have g2 : ∀ is2 : Int32, (P2 k = true ↔ (¬ m 1 (234 + 7 * k) = -1 ∧ ¬ is2 = 0)) → fX9_goes (dM 234 P2 k (dM 192 P1 (k + 1) m)) (nI (234 + 7 * k)) is2 = some (dM 234 P2 (k + 1) (dM 192 P1 (k + 1) m), nI (if P2 k = true then 1 else 0)) := fun is2 h => goes_st (by omega) (by rw [e2]; exact h2 k hk) (by rw [e2]; exact h)
      unfold fX9_fenceSpace_b98
      rw [dM_comm (by omega) (by omega), goes_st (by omega) (by rw [e1]; exact h1 k hk) (by rw [e1]; exact his), bw_eq, ← dM_comm (by omega) (by omega), lk_eq, gd_nI (by omega) (by decide), nI_clamp (by omega), e5]
      by_cases ht : m 1 (234 + 7 * k) = tag
      · rw [if_pos ht, g2 1 ⟨fun z => ⟨((hP2 k hk).mp z).1, by decide⟩, fun z => (hP2 k hk).mpr ⟨z.1, ht⟩⟩, bw_eq, lk_eq, cnt2', na1]
        exact ih
      · rw [if_neg ht, g2 0 ⟨fun z => absurd ((hP2 k hk).mp z).2 ht, fun z => absurd rfl z.2⟩, bw_eq, lk_eq, cnt2', na1]
        exact ih
    unfold fX9_fenceSpace_b40_s
    rw [if_neg (by rw [ge6F hk]; exact id), i192, i234, lk_eq, lk_eq, gd_nI (by omega) (by decide), nI_clamp (by omega), e3, glob_m (by omega), e4]
    by_cases ht : m 1 (192 + 7 * k) = tag
    · rw [if_pos ht]
      by_cases hg : m 1 (192 + 7 * k + 4) &&& 8 = 0
      · rw [if_pos hg, bd_eq, if_pos rfl]
        exact b98 1 ⟨fun z => ⟨((hP1 k hk).mp z).1, by decide⟩, fun z => (hP1 k hk).mpr ⟨z.1, ht, hg⟩⟩
      · rw [if_neg hg, bd_eq, if_neg one_ne]
        exact b98 0 ⟨fun z => absurd ((hP1 k hk).mp z).2.2 hg, fun z => absurd rfl z.2⟩
    · rw [if_neg ht]
      exact b98 0 ⟨fun z => absurd ((hP1 k hk).mp z).2.1 ht, fun z => absurd rfl z.2⟩
/-- a place as both sides see it -/
def PlOk (m : Mm) (A : Nat) : Prop := m 1 A = -1 ∨ (Vk 3 (m 1 A) ∧ ∃ l fi : Nat, l < 3 ∧ fi < 512 ∧ m 1 (A + 1) = nI l ∧ m 1 (A + 2) = nI fi ∧ fi % 8 ^ l = 0)
theorem RP.ok {n b q a : Nat} {c m : Mm} (h : RP n b q a c m) {k : Nat} (hk : k < 6) : PlOk m (a + 7 * k) := by
  rcases h.dich hk with ⟨-, pf, -⟩ | ⟨-, e⟩
  · exact Or.inr ⟨pf.2.1, pf.2.2.2.2.2.2.2.2.1⟩
  · exact Or.inl e
theorem div_iff {w a f : Nat} (hw : 0 < w) (hf : f % w = 0) : a / w = f / w ↔ a - a % w = f := by
  have h1 := Nat.div_add_mod a w
  have h2 := Nat.div_add_mod f w
  constructor
  · intro h
    rw [h] at h1
    omega
  · intro h
    have : w * (a / w) = w * (f / w) := by omega
    exact Nat.eq_of_mul_eq_mul_left hw this
theorem under_eq {m : Mm} {A ad : Nat} (hA : A + 2 < 345) (had : ad < 512) (h : PlOk m A) : (fX9_isUnder m (nI A) (nI ad) = some 1 ∧ ¬ m 1 A = -1 ∧ fX8_firstOf (nI ad) (m 1 (A + 1)) = m 1 (A + 2)) ∨ (fX9_isUnder m (nI A) (nI ad) = some 0 ∧ ¬ (¬ m 1 A = -1 ∧ fX8_firstOf (nI ad) (m 1 (A + 1)) = m 1 (A + 2))) := by
  rcases h with h | ⟨⟨g, hg, eg⟩, l, fi, hl, hfi, e1, e2, hmod⟩
  · right
    refine ⟨?_, fun z => z.1 h⟩
    unfold fX9_isUnder
    rw [emp_t (by omega) h]
    rfl
  · have nm : ¬ m 1 A = -1 := by rw [eg, m1ne (by omega)]; exact id
    obtain ⟨-, w, p, q⟩ := wid_eq l hl
    have L : fX9_isUnder m (nI A) (nI ad) = if ad - ad % 8 ^ l = fi then some 1 else some 0 := by
      unfold fX9_isUnder
      rw [emp_f (by omega) hg eg, bd_eq, if_pos rfl]
      simp (disch := omega) only [eq_self, l21, l12, l20, na0, Nat.reduceAdd, wk_eq, lk_eq, lkN_eq, bd_eq, bw_eq, gd_nI, nI_clamp, na1, na2, na3, na4, na5, na6, na7, na8, na9, i192, i234, i276, i326, i332, i338, i96, i0, i8, ge6F, ge6T, ge4F, ge4T, ltz, lez, Nat.one_mul, if_true, if_false, one_ne, one_eq0, zero_eq0, wr0_1, glit320, glit321, glit322, glit323, glit324, glit325, glit344, cl320, cl321, cl322, cl323, cl324, cl325, cl344, e1, e2]
      have d1 : ad / 8 ^ l < 2 ^ 31 := Nat.lt_of_le_of_lt (Nat.div_le_self _ _) (by omega)
      have d2 : fi / 8 ^ l < 2 ^ 31 := Nat.lt_of_le_of_lt (Nat.div_le_self _ _) (by omega)
      rw [nz_wide hl, nz_wide hl, w, pk_div (by omega) p (by omega), pk_div (by omega) p (by omega)]
      simp only [ninj d1 d2, div_iff p hmod]
    have F : (fX8_firstOf (nI ad) (m 1 (A + 1)) = m 1 (A + 2)) ↔ ad - ad % 8 ^ l = fi := by
      rw [e1, e2, first_eq hl had, ninj (by omega) (by omega)]
    rw [L]
    by_cases e : ad - ad % 8 ^ l = fi
    · exact Or.inl ⟨if_pos e, nm, F.mpr e⟩
    · exact Or.inr ⟨if_neg e, fun z => e (F.mp z.2)⟩
theorem PlOk.cg {m m' : Mm} {A : Nat} (h : PlOk m A) (e0 : m' 1 A = m 1 A) (e1 : m' 1 (A + 1) = m 1 (A + 1)) (e2 : m' 1 (A + 2) = m 1 (A + 2)) : PlOk m' A := by
  unfold PlOk
  rw [e0, e1, e2]; exact h
theorem b54_sp {m : Mm} {tag : Int32} {ad : Nat} (had : ad < 512) {P1 P2 : Nat → Bool} {r : Mm × Int32} (h1 : ∀ k, k < 6 → PlOk m (192 + 7 * k)) (h2 : ∀ k, k < 6 → PlOk m (234 + 7 * k)) (h1v : ∀ k, k < 6 → Vn 3 (m 1 (192 + 7 * k))) (h2v : ∀ k, k < 6 → Vn 3 (m 1 (234 + 7 * k))) (hP1 : ∀ k, k < 6 → (P1 k = true ↔ ((¬ m 1 (192 + 7 * k) = -1 ∧ fX8_firstOf (nI ad) (m 1 (192 + 7 * k + 1)) = m 1 (192 + 7 * k + 2)) ∧ (m 1 (192 + 7 * k) = tag ∨ ¬ m 1 (192 + 7 * k + 4) &&& 8 = 0)))) (hP2 : ∀ k, k < 6 → (P2 k = true ↔ ((¬ m 1 (234 + 7 * k) = -1 ∧ fX8_firstOf (nI ad) (m 1 (234 + 7 * k + 1)) = m 1 (234 + 7 * k + 2)) ∧ m 1 (234 + 7 * k) = tag))) (hend : fX9_fence_b175 2000 (dM 234 P2 6 (dM 192 P1 6 m)) (nI ad) tag (nI (fa_cnt P1 6 + fa_cnt P2 6)) 0 = some r) : fX9_fence_b54 2000 m (nI ad) tag 0 0 = some r := by
  have key := down (P := fun f k => fX9_fence_b54 f (dM 234 P2 k (dM 192 P1 k m)) (nI ad) tag (nI (fa_cnt P1 k + fa_cnt P2 k)) (nI k) = some r) 6 ?_ ?_ 6 0 2000 rfl (by decide)
  · rw [dM_0, dM_0] at key; exact key
  · intro f
    have L : fX9_fence_b54 (f + 1) (dM 234 P2 6 (dM 192 P1 6 m)) (nI ad) tag (nI (fa_cnt P1 6 + fa_cnt P2 6)) (nI 6) = fX9_fence_b54_s (fX9_fence_b54 f) (dM 234 P2 6 (dM 192 P1 6 m)) (nI ad) tag (nI (fa_cnt P1 6 + fa_cnt P2 6)) (nI 6) := rfl
    rw [L]
    unfold fX9_fence_b54_s
    rw [if_pos (by decide)]
    exact hend
  · intro f k hk ih
    have L : fX9_fence_b54 (f + 1) (dM 234 P2 k (dM 192 P1 k m)) (nI ad) tag (nI (fa_cnt P1 k + fa_cnt P2 k)) (nI k) = fX9_fence_b54_s (fX9_fence_b54 f) (dM 234 P2 k (dM 192 P1 k m)) (nI ad) tag (nI (fa_cnt P1 k + fa_cnt P2 k)) (nI k) := rfl
    rw [L]
    have e1 : dM 234 P2 k m 1 (192 + 7 * k) = m 1 (192 + 7 * k) := dM_out (by omega)
    have e2 : dM 192 P1 (k + 1) m 1 (234 + 7 * k) = m 1 (234 + 7 * k) := dM_out (by omega)
    have e3 : ∀ j, j < 7 → dM 234 P2 k (dM 192 P1 k m) 1 (192 + 7 * k + j) = m 1 (192 + 7 * k + j) := fun j hj => by rw [dM_out (by omega), dM_out (by omega)]
    have e5 : ∀ j, j < 7 → dM 234 P2 k (dM 192 P1 (k + 1) m) 1 (234 + 7 * k + j) = m 1 (234 + 7 * k + j) := fun j hj => by rw [dM_out (by omega), dM_out (by omega)]
    have b123 : ∀ is : Int32, (P1 k = true ↔ (¬ m 1 (192 + 7 * k) = -1 ∧ ¬ is = 0)) → fX9_fence_b123 (fX9_fence_b54 f) (dM 234 P2 k (dM 192 P1 k m)) (nI ad) tag (nI k) (nI (234 + 7 * k)) (nI (fa_cnt P1 k + fa_cnt P2 k)) (nI (192 + 7 * k)) is = some r := by
      intro is his
      have g2 : ∀ is2 : Int32, (P2 k = true ↔ (¬ m 1 (234 + 7 * k) = -1 ∧ ¬ is2 = 0)) → fX9_goes (dM 234 P2 k (dM 192 P1 (k + 1) m)) (nI (234 + 7 * k)) is2 = some (dM 234 P2 (k + 1) (dM 192 P1 (k + 1) m), nI (if P2 k = true then 1 else 0)) := fun is2 h => goes_st (by omega) (by rw [e2]; exact h2v k hk) (by rw [e2]; exact h)
      have u := under_eq (A := 234 + 7 * k) (by omega) had ((h2 k hk).cg (e5 0 (by decide)) (e5 1 (by decide)) (e5 2 (by decide)))
      rw [show dM 234 P2 k (dM 192 P1 (k + 1) m) 1 (234 + 7 * k) = m 1 (234 + 7 * k) from e5 0 (by decide), e5 1 (by decide), e5 2 (by decide)] at u
      unfold fX9_fence_b123
      rw [dM_comm (by omega) (by omega), goes_st (by omega) (by rw [e1]; exact h1v k hk) (by rw [e1]; exact his), bw_eq, ← dM_comm (by omega) (by omega), lk_eq]
      rcases u with ⟨u1, u2⟩ | ⟨u1, u2⟩
      · rw [u1, bd_eq, if_neg one_ne, gd_nI (by omega) (by decide), nI_clamp (by omega), show dM 234 P2 k (dM 192 P1 (k + 1) m) 1 (234 + 7 * k) = m 1 (234 + 7 * k) from e5 0 (by decide)]
        by_cases ht : m 1 (234 + 7 * k) = tag
        · rw [if_pos ht, g2 1 ⟨fun z => ⟨u2.1, by decide⟩, fun z => (hP2 k hk).mpr ⟨u2, ht⟩⟩, bw_eq, lk_eq, cnt2', na1]
          exact ih
        · rw [if_neg ht, g2 0 ⟨fun z => absurd ((hP2 k hk).mp z).2 ht, fun z => absurd rfl z.2⟩, bw_eq, lk_eq, cnt2', na1]
          exact ih
      · rw [u1, bd_eq, if_pos rfl, g2 0 ⟨fun z => absurd ((hP2 k hk).mp z).1 u2, fun z => absurd rfl z.2⟩, bw_eq, lk_eq, cnt2', na1]
        exact ih
    have u := under_eq (A := 192 + 7 * k) (by omega) had ((h1 k hk).cg (e3 0 (by decide)) (e3 1 (by decide)) (e3 2 (by decide)))
    rw [show dM 234 P2 k (dM 192 P1 k m) 1 (192 + 7 * k) = m 1 (192 + 7 * k) from e3 0 (by decide), e3 1 (by decide), e3 2 (by decide)] at u
    unfold fX9_fence_b54_s
    rw [if_neg (by rw [ge6F hk]; exact id), i192, i234, lk_eq, lk_eq]
    rcases u with ⟨u1, u2⟩ | ⟨u1, u2⟩
    · rw [u1, bd_eq, if_neg one_ne, gd_nI (by omega) (by decide), nI_clamp (by omega), show dM 234 P2 k (dM 192 P1 k m) 1 (192 + 7 * k) = m 1 (192 + 7 * k) from e3 0 (by decide), glob_m (by omega), e3 4 (by decide)]
      by_cases ht : m 1 (192 + 7 * k) = tag
      · rw [if_pos ht]
        exact b123 1 ⟨fun z => ⟨u2.1, by decide⟩, fun z => (hP1 k hk).mpr ⟨u2, Or.inl ht⟩⟩
      · rw [if_neg ht]
        by_cases hg : m 1 (192 + 7 * k + 4) &&& 8 = 0
        · rw [if_pos hg, bd_eq, if_pos rfl]
          exact b123 0 ⟨fun z => ((hP1 k hk).mp z).2.elim (fun y => absurd y ht) (fun y => absurd hg y), fun z => absurd rfl z.2⟩
        · rw [if_neg hg, bd_eq, if_neg one_ne]
          exact b123 1 ⟨fun z => ⟨u2.1, by decide⟩, fun z => (hP1 k hk).mpr ⟨u2, Or.inr hg⟩⟩
    · rw [u1, bd_eq, if_pos rfl]
      exact b123 0 ⟨fun z => absurd ((hP1 k hk).mp z).1 u2, fun z => absurd rfl z.2⟩
theorem and8 : ∀ r, r < 8 → nI r &&& 8 = 0 := by decide
