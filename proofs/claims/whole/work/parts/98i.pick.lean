/-! PURE: which place is taken -/
def mtC (b k : Nat) (tg l f : Int32) (c : Mm) : Prop := ¬ c (b + k) 0 = 0 ∧ c (b + k) 1 = tg ∧ c (b + k) 2 = l ∧ c (b + k) 3 = f
def mtM (a k : Nat) (tg l f : Int32) (m : Mm) : Prop := m 1 (a + 7 * k) = tg ∧ m 1 (a + 7 * k + 1) = l ∧ m 1 (a + 7 * k + 2) = f
theorem find_sp {c : Mm} {q : Nat} {tg l f : Int32} : (fX5_find c q tg l f = some none ∧ ∀ k, k < 6 → ¬ mtC (q + 1 + 1) k tg l f c) ∨ ∃ k, k < 6 ∧ fX5_find c q tg l f = some (some (q + 1 + 1 + k)) ∧ mtC (q + 1 + 1) k tg l f c := by
  have key := down (P := fun fu k => (∀ j, j < k → ¬ mtC (q + 1 + 1) j tg l f c) → (fX5_find_b3 fu c q tg l f (nI k) = some none ∧ ∀ k, k < 6 → ¬ mtC (q + 1 + 1) k tg l f c) ∨ ∃ k', k' < 6 ∧ fX5_find_b3 fu c q tg l f (nI k) = some (some (q + 1 + 1 + k')) ∧ mtC (q + 1 + 1) k' tg l f c) 6 ?_ ?_ 6 0 2000 rfl (by decide) (fun j hj => by omega)
  · exact key
  · intro fu h
    exact Or.inl ⟨rfl, h⟩
  · intro fu k hk ih h
    have L : fX5_find_b3 (fu + 1) c q tg l f (nI k) = fX5_find_b3_s (fX5_find_b3 fu) c q tg l f (nI k) := rfl
    rw [L]
    unfold fX5_find_b3_s
    simp (disch := omega) only [ge6F, if_false, gd_nI, nI_clamp, lkN_eq, Nat.one_mul, na1 k]
    have nx : ¬ mtC (q + 1 + 1) k tg l f c → ∀ j, j < k + 1 → ¬ mtC (q + 1 + 1) j tg l f c := fun hn j hj => by
      by_cases e : j = k
      · subst e; exact hn
      · exact h j (by omega)
    by_cases h0 : c (q + 1 + 1 + k) 0 = 0
    · rw [if_pos h0]; exact ih (nx (fun z => z.1 h0))
    · rw [if_neg h0]
      by_cases h1 : c (q + 1 + 1 + k) 1 = tg
      · rw [if_pos h1]
        by_cases h2 : c (q + 1 + 1 + k) 2 = l
        · rw [if_pos h2]
          by_cases h3 : c (q + 1 + 1 + k) 3 = f
          · rw [if_pos h3]
            exact Or.inr ⟨k, hk, rfl, h0, h1, h2, h3⟩
          · rw [if_neg h3]; exact ih (nx (fun z => h3 z.2.2.2))
        · rw [if_neg h2]; exact ih (nx (fun z => h2 z.2.2.1))
      · rw [if_neg h1]; exact ih (nx (fun z => h1 z.2.1))
theorem le_tr {a b c : Int32} (h : a ≤ b) (g : b ≤ c) : a ≤ c := by
  rw [fa_le] at *
  omega
theorem le_rf (a : Int32) : a ≤ a := by
  rw [fa_le]
  omega
theorem le_of_nle {a b : Int32} (h : ¬ a ≤ b) : b ≤ a := by
  rw [fa_le] at *
  omega
theorem old_sp {c : Mm} {q : Nat} : ∃ k, k < 6 ∧ fX5_emptyOrOldest c q = some (some (q + 1 + 1 + k)) ∧ ((c (q + 1 + 1 + k) 0 = 0 ∧ ∀ j, j < k → ¬ c (q + 1 + 1 + j) 0 = 0) ∨ ((∀ j, j < 6 → ¬ c (q + 1 + 1 + j) 0 = 0) ∧ ∀ j, j < 6 → c (q + 1 + 1 + k) 7 ≤ c (q + 1 + 1 + j) 7)) := by
  have key := down (P := fun fu k => ∀ z, z < 6 → (∀ j, j < k → ¬ c (q + 1 + 1 + j) 0 = 0 ∧ c (q + 1 + 1 + z) 7 ≤ c (q + 1 + 1 + j) 7) → ∃ k', k' < 6 ∧ fX5_emptyOrOldest_b9 fu c q (q + 1 + 1 + z) (nI k) = some (some (q + 1 + 1 + k')) ∧ ((c (q + 1 + 1 + k') 0 = 0 ∧ ∀ j, j < k' → ¬ c (q + 1 + 1 + j) 0 = 0) ∨ ((∀ j, j < 6 → ¬ c (q + 1 + 1 + j) 0 = 0) ∧ ∀ j, j < 6 → c (q + 1 + 1 + k') 7 ≤ c (q + 1 + 1 + j) 7))) 6 ?_ ?_ 6 0 2000 rfl (by decide) 0 (by decide) (fun j hj => by omega)
  · have e : fX5_emptyOrOldest c q = fX5_emptyOrOldest_b9 2000 c q (q + 1 + 1 + 0) (nI 0) := by
      unfold fX5_emptyOrOldest
      rw [show (0 : Int32) = nI 0 from rfl, gd_nI (by decide) (by decide), lkN_eq, nI_clamp (by decide), Nat.mul_zero]
    rw [e]
    exact key
  · intro fu z hz h
    exact ⟨z, hz, rfl, Or.inr ⟨fun j hj => (h j hj).1, fun j hj => (h j hj).2⟩⟩
  · intro fu k hk ih z hz h
    have L : fX5_emptyOrOldest_b9 (fu + 1) c q (q + 1 + 1 + z) (nI k) = fX5_emptyOrOldest_b9_s (fX5_emptyOrOldest_b9 fu) c q (q + 1 + 1 + z) (nI k) := rfl
    rw [L]
    unfold fX5_emptyOrOldest_b9_s
    simp (disch := omega) only [ge6F, if_false, gd_nI, nI_clamp, lkN_eq, Nat.one_mul, na1 k]
    by_cases h0 : c (q + 1 + 1 + k) 0 = 0
    · rw [if_pos h0]
      exact ⟨k, hk, rfl, Or.inl ⟨h0, fun j hj => (h j hj).1⟩⟩
    · rw [if_neg h0]
      by_cases h1 : c (q + 1 + 1 + z) 7 ≤ c (q + 1 + 1 + k) 7
      · rw [if_pos h1]
        refine ih z hz (fun j hj => ?_)
        by_cases e : j = k
        · subst e; exact ⟨h0, h1⟩
        · exact h j (by omega)
      · rw [if_neg h1]
        refine ih k hk (fun j hj => ?_)
        by_cases e : j = k
        · subst e; exact ⟨h0, le_rf _⟩
        · exact ⟨(h j (by omega)).1, le_tr (le_of_nle h1) (h j (by omega)).2⟩
theorem nm1 {k : Nat} (h : 0 < k) (h2 : k < 2 ^ 31) : nI k + -1 = nI (k - 1) := by
  have e : nI k - nI 1 = nI (k - 1) := pk_sub h
  rw [← e]
  exact (Int32.sub_eq_add_neg (nI k) (nI 1)).symm
/-- the reference's search, k places still to see -/
theorem room_lp {m : Mm} {a : Nat} {tg l f : Int32} (ha : a + 42 ≤ 320) (hV : ∀ k, k < 6 → Vn 3 (m 1 (a + 7 * k))) : ∀ k fu, k ≤ 6 → k < fu → ∀ (e : Int32) (z : Nat), z < 6 → (∀ j, k ≤ j → j < 6 → ¬ mtM a j tg l f m) → ((e = -1 ∧ ∀ j, k ≤ j → j < 6 → ¬ m 1 (a + 7 * j) = -1) ∨ ∃ y, k ≤ y ∧ y < 6 ∧ e = nI (a + 7 * y) ∧ m 1 (a + 7 * y) = -1 ∧ ∀ j, k ≤ j → j < y → ¬ m 1 (a + 7 * j) = -1) → (∀ j, k ≤ j → j < 6 → m 1 (a + 7 * z + 6) ≤ m 1 (a + 7 * j + 6)) →
    ∃ r, r < 6 ∧ fX9_roomIn_b9 fu m (nI a) tg l f e (nI (a + 7 * z)) (nI k + -1) = some (nI (a + 7 * r)) ∧ (mtM a r tg l f m ∨ ((∀ j, j < 6 → ¬ mtM a j tg l f m) ∧ ((m 1 (a + 7 * r) = -1 ∧ ∀ j, j < r → ¬ m 1 (a + 7 * j) = -1) ∨ ((∀ j, j < 6 → ¬ m 1 (a + 7 * j) = -1) ∧ ∀ j, j < 6 → m 1 (a + 7 * r + 6) ≤ m 1 (a + 7 * j + 6))))) := by
  intro k
  induction k with
  | zero =>
    intro fu h6 hf e z hz h1 h2 h3
    obtain ⟨g, rfl⟩ : ∃ g, fu = g + 1 := ⟨fu - 1, by omega⟩
    have L : fX9_roomIn_b9 (g + 1) m (nI a) tg l f e (nI (a + 7 * z)) (nI 0 + -1) = fX9_roomIn_b9_s (fX9_roomIn_b9 g) m (nI a) tg l f e (nI (a + 7 * z)) (nI 0 + -1) := rfl
    rw [L]
    unfold fX9_roomIn_b9_s
    rw [m1_0, if_pos (by decide)]
    rcases h2 with ⟨rfl, h2⟩ | ⟨y, hy, hy6, rfl, h4, h5⟩
    · rw [if_pos (by decide)]
      exact ⟨z, hz, rfl, Or.inr ⟨fun j hj => h1 j (by omega) hj, Or.inr ⟨fun j hj => h2 j (by omega) hj, fun j hj => h3 j (by omega) hj⟩⟩⟩
    · rw [if_neg (nI_pos (by omega))]
      exact ⟨y, hy6, rfl, Or.inr ⟨fun j hj => h1 j (by omega) hj, Or.inl ⟨h4, fun j hj => h5 j (by omega) hj⟩⟩⟩
  | succ k ih =>
    intro fu h6 hf e z hz h1 h2 h3
    obtain ⟨g, rfl⟩ : ∃ g, fu = g + 1 := ⟨fu - 1, by omega⟩
    have L : fX9_roomIn_b9 (g + 1) m (nI a) tg l f e (nI (a + 7 * z)) (nI (k + 1) + -1) = fX9_roomIn_b9_s (fX9_roomIn_b9 g) m (nI a) tg l f e (nI (a + 7 * z)) (nI (k + 1) + -1) := rfl
    rw [L, nm1 (by omega) (by omega), Nat.add_sub_cancel]
    unfold fX9_roomIn_b9_s fX9_roomIn_b64
    rw [if_neg (nI_pos (by omega)), lk_eq, iA]
    simp (disch := omega) only [eq_self, l21, l12, l20, na0, Nat.reduceAdd, wk_eq, lk_eq, lkN_eq, bd_eq, bw_eq, gd_nI, nI_clamp, na1, na2, na3, na4, na5, na6, na7, na8, na9, i192, i234, i276, i326, i332, i338, i96, i0, i8, ge6F, ge6T, ge4F, ge4T, ltz, lez, Nat.one_mul, if_true, if_false, one_ne, one_eq0, zero_eq0, wr0_1, glit320, glit321, glit322, glit323, glit324, glit325, glit344, cl320, cl321, cl322, cl323, cl324, cl325, cl344]
    have go : ¬ mtM a k tg l f m → ∃ r, r < 6 ∧ (bd (fX9_isEmpty m (nI (a + 7 * k))) (fun r1 => if r1 = 0 then fX9_roomIn_b80 (fX9_roomIn_b9 g) m (nI a) tg l f (nI (a + 7 * z)) (nI k) (nI (a + 7 * k)) e else fX9_roomIn_b80 (fX9_roomIn_b9 g) m (nI a) tg l f (nI (a + 7 * z)) (nI k) (nI (a + 7 * k)) (nI (a + 7 * k)))) = some (nI (a + 7 * r)) ∧ (mtM a r tg l f m ∨ ((∀ j, j < 6 → ¬ mtM a j tg l f m) ∧ ((m 1 (a + 7 * r) = -1 ∧ ∀ j, j < r → ¬ m 1 (a + 7 * j) = -1) ∨ ((∀ j, j < 6 → ¬ m 1 (a + 7 * j) = -1) ∧ ∀ j, j < 6 → m 1 (a + 7 * r + 6) ≤ m 1 (a + 7 * j + 6))))) := by
      intro hn
      have n1 : ∀ j, k ≤ j → j < 6 → ¬ mtM a j tg l f m := fun j hj hj6 => by
        by_cases e : j = k
        · subst e; exact hn
        · exact h1 j (by omega) hj6
      have b80 : ∀ e', ((e' = -1 ∧ ∀ j, k ≤ j → j < 6 → ¬ m 1 (a + 7 * j) = -1) ∨ ∃ y, k ≤ y ∧ y < 6 ∧ e' = nI (a + 7 * y) ∧ m 1 (a + 7 * y) = -1 ∧ ∀ j, k ≤ j → j < y → ¬ m 1 (a + 7 * j) = -1) → ∃ r, r < 6 ∧ fX9_roomIn_b80 (fX9_roomIn_b9 g) m (nI a) tg l f (nI (a + 7 * z)) (nI k) (nI (a + 7 * k)) e' = some (nI (a + 7 * r)) ∧ (mtM a r tg l f m ∨ ((∀ j, j < 6 → ¬ mtM a j tg l f m) ∧ ((m 1 (a + 7 * r) = -1 ∧ ∀ j, j < r → ¬ m 1 (a + 7 * j) = -1) ∨ ((∀ j, j < 6 → ¬ m 1 (a + 7 * j) = -1) ∧ ∀ j, j < 6 → m 1 (a + 7 * r + 6) ≤ m 1 (a + 7 * j + 6))))) := by
        intro e' he'
        unfold fX9_roomIn_b80
        simp (disch := omega) only [eq_self, l21, l12, l20, na0, Nat.reduceAdd, wk_eq, lk_eq, lkN_eq, bd_eq, bw_eq, gd_nI, nI_clamp, na1, na2, na3, na4, na5, na6, na7, na8, na9, i192, i234, i276, i326, i332, i338, i96, i0, i8, ge6F, ge6T, ge4F, ge4T, ltz, lez, Nat.one_mul, if_true, if_false, one_ne, one_eq0, zero_eq0, wr0_1, glit320, glit321, glit322, glit323, glit324, glit325, glit344, cl320, cl321, cl322, cl323, cl324, cl325, cl344]
        by_cases hu : m 1 (a + 7 * z + 6) ≤ m 1 (a + 7 * k + 6)
        · rw [if_pos hu]
          refine ih g (by omega) (by omega) e' z hz n1 he' (fun j hj hj6 => ?_)
          by_cases e : j = k
          · subst e; exact hu
          · exact h3 j (by omega) hj6
        · rw [if_neg hu]
          refine ih g (by omega) (by omega) e' k (by omega) n1 he' (fun j hj hj6 => ?_)
          by_cases e : j = k
          · subst e; exact le_rf _
          · exact le_tr (le_of_nle hu) (h3 j (by omega) hj6)
      rcases hV k (by omega) with hm | ⟨v, hv, hm⟩
      · rw [emp_t (by omega) hm, bd_eq, if_neg one_ne]
        exact b80 _ (Or.inr ⟨k, by omega, by omega, rfl, hm, fun j h1 h2 => by omega⟩)
      · rw [emp_f (by omega) hv hm, bd_eq, if_pos rfl]
        have nk : ¬ m 1 (a + 7 * k) = -1 := by rw [hm, m1ne (by omega)]; exact id
        refine b80 _ ?_
        rcases h2 with ⟨rfl, h2⟩ | ⟨y, hy, hy6, rfl, h4, h5⟩
        · refine Or.inl ⟨rfl, fun j hj hj6 => ?_⟩
          by_cases e : j = k
          · subst e; exact nk
          · exact h2 j (by omega) hj6
        · refine Or.inr ⟨y, by omega, hy6, rfl, h4, fun j hj hjy => ?_⟩
          by_cases e : j = k
          · subst e; exact nk
          · exact h5 j (by omega) hjy
    by_cases g0 : m 1 (a + 7 * k) = tg
    · rw [if_pos g0]
      by_cases g1 : m 1 (a + 7 * k + 1) = l
      · rw [if_pos g1]
        by_cases g2 : m 1 (a + 7 * k + 2) = f
        · rw [if_pos g2]
          exact ⟨k, by omega, rfl, Or.inl ⟨g0, g1, g2⟩⟩
        · rw [if_neg g2]; exact go (fun z => g2 z.2.2)
      · rw [if_neg g1]; exact go (fun z => g1 z.2.1)
    · rw [if_neg g0]; exact go (fun z => g0 z.1)
theorem room_sp {m : Mm} {a : Nat} {tg l f : Int32} (ha : a + 42 ≤ 320) (hV : ∀ k, k < 6 → Vn 3 (m 1 (a + 7 * k))) : ∃ r, r < 6 ∧ fX9_roomIn m (nI a) tg l f = some (nI (a + 7 * r)) ∧ (mtM a r tg l f m ∨ ((∀ j, j < 6 → ¬ mtM a j tg l f m) ∧ ((m 1 (a + 7 * r) = -1 ∧ ∀ j, j < r → ¬ m 1 (a + 7 * j) = -1) ∨ ((∀ j, j < 6 → ¬ m 1 (a + 7 * j) = -1) ∧ ∀ j, j < 6 → m 1 (a + 7 * r + 6) ≤ m 1 (a + 7 * j + 6))))) :=
  room_lp ha hV 6 2000 (by omega) (by omega) (-1) 0 (by omega) (fun j h1 h2 => by omega) (Or.inl ⟨rfl, fun j h1 h2 => by omega⟩) (fun j h1 h2 => by omega)
