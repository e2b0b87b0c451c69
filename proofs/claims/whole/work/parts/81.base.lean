/-! PURE: small laws -/
theorem gd_nI {α : Type} {a n : Nat} {k : Option α} (h : a < n) (hn : n < 2 ^ 31) : gd (nI a) n k = k := if_neg (vp_in_nI h hn)
theorem wk_eq {α : Type} (m : Mm) (b i : Nat) (v : Int32) (k : Mm → Option α) : wk m b i v k = k (wr m b i v) := rfl
theorem lk_eq {α : Type} (e : Int32) (k : Int32 → Option α) : lk e k = k e := rfl
theorem lkN_eq {α : Type} (e : Nat) (k : Nat → Option α) : lkN e k = k e := rfl
theorem bd_eq {α β : Type} (a : α) (k : α → Option β) : bd (some a) k = k a := rfl
theorem bw_eq {α β : Type} (m : Mm) (a : α) (k : Mm → α → Option β) : bw (some (m, a)) k = k m a := rfl
theorem bn_eq {α : Type} (c : Nat) (m : Mm) (k : Nat → Mm → Option α) : bn (some (c, m)) k = k c m := rfl
theorem nz_nI {α : Type} {a : Nat} {k : Option α} (h : 0 < a) (ha : a < 2 ^ 31) : nz (nI a) k = k := if_neg (nI_ne0 h ha)
theorem gz_1 {α : Type} {k : Option α} : gz 1 k = k := rfl
theorem gz_0 {α : Type} {k : Option α} : gz 0 k = k := rfl
theorem oc_none {α : Type} (a : Option α) (k : Nat → Option α) : oc none a k = a := rfl
theorem oc_some {α : Type} {b : Nat} (a : Option α) (k : Nat → Option α) (h : isPlB b = true) : oc (some b) a k = k b := if_pos h
theorem wr_same (m : Mm) (b i : Nat) (v : Int32) : wr m b i v b i = v := wr_at m b i v
theorem wr_i (m : Mm) (b : Nat) {i j : Nat} (v : Int32) (h : j ≠ i) : wr m b i v b j = m b j := by simp [wr, h]
theorem wr_b (m : Mm) {b c : Nat} (i j : Nat) (v : Int32) (h : c ≠ b) : wr m b i v c j = m c j := by simp [wr, h]
/-- an int lies outside 0..N-1, or is one of them -/
theorem rng (a : Int32) (N : Nat) (hN : N < 2 ^ 31) : (a < 0 ∨ nI N ≤ a) ∨ ∃ k, k < N ∧ a = nI k := by
  by_cases h1 : a < 0
  · exact Or.inl (Or.inl h1)
  · obtain ⟨j, hj, rfl⟩ := nI_of h1
    by_cases h2 : j < N
    · exact Or.inr ⟨j, h2, rfl⟩
    · exact Or.inl (Or.inr (nI_le (by omega) hj))
theorem nlt0 {k : Nat} (h : k < 2 ^ 31) : ¬ nI k < 0 := nI_pos h
theorem ge_no {k N : Nat} (h : k < N) (hN : N < 2 ^ 31) : ¬ nI N ≤ nI k := nI_ge h hN
theorem out_not {a : Int32} {N : Nat} (hN : 0 < N) (h2 : N < 2 ^ 31) (h : a < 0 ∨ nI N ≤ a) : ¬ (¬ a < 0 ∧ a ≤ nI (N - 1)) := by
  intro hc
  rcases h with h | h
  · exact hc.1 h
  · have h3 := hc.2
    rw [fa_le, nI_toInt h2] at h
    rw [fa_le, nI_toInt (by omega)] at h3
    omega
/-- within(a, 0, N - 1) -/
theorem within_in {k N : Nat} (h : k < N) (hN : N < 2 ^ 31) : fX9_within (nI k) 0 (nI (N - 1)) = 1 := by
  unfold fX9_within
  rw [if_neg (nI_pos (by omega)), if_neg (nI_nlt (by omega) (by omega))]
theorem within_out {a : Int32} {N : Nat} (h0 : 0 < N) (hN : N < 2 ^ 31) (h : a < 0 ∨ nI N ≤ a) : fX9_within a 0 (nI (N - 1)) = 0 := by
  unfold fX9_within
  by_cases h1 : a < 0
  · rw [if_pos h1]
  · rw [if_neg h1]
    rcases h with h | h
    · exact absurd h h1
    · rw [if_pos]
      rw [fa_lt, nI_toInt (by omega)]
      rw [fa_le, nI_toInt hN] at h
      omega
theorem sp_out {a : Int32} (h : a < 0 ∨ nI 6 ≤ a) : fX8_isSpace a = 0 ∧ fX9_isSpace a = 0 := by
  refine ⟨?_, within_out (N := 6) (by decide) (by decide) h⟩
  unfold fX8_isSpace
  by_cases h1 : a < 0
  · rw [if_pos h1]
  · rw [if_neg h1, if_pos (show (6 : Int32) ≤ a from h.resolve_left h1)]
theorem sp_in {k : Nat} (h : k < 6) : fX8_isSpace (nI k) = 1 ∧ fX9_isSpace (nI k) = 1 := by
  refine ⟨?_, within_in (N := 6) h (by decide)⟩
  unfold fX8_isSpace
  rw [if_neg (nI_pos (by omega)), if_neg (show ¬ (6 : Int32) ≤ nI k from nI_ge h (by decide))]
theorem ad_out {a : Int32} (h : a < 0 ∨ nI 512 ≤ a) : fX8_isAddress a = 0 ∧ fX9_isAddress a = 0 := by
  refine ⟨?_, within_out (N := 512) (by decide) (by decide) h⟩
  unfold fX8_isAddress
  by_cases h1 : a < 0
  · rw [if_pos h1]
  · rw [if_neg h1, if_pos (show (512 : Int32) ≤ a from h.resolve_left h1)]
theorem ad_in {k : Nat} (h : k < 512) : fX8_isAddress (nI k) = 1 ∧ fX9_isAddress (nI k) = 1 := by
  refine ⟨?_, within_in (N := 512) h (by decide)⟩
  unfold fX8_isAddress
  rw [if_neg (nI_pos (by omega)), if_neg (show ¬ (512 : Int32) ≤ nI k from nI_ge h (by decide))]
/-- a table's entry: out, or the t-th table's i-th -/
theorem cell_cases (a1 a2 : Int32) : (fX8_isCell a1 a2 = 0 ∧ fX9_isEntry a1 a2 = 0) ∨ ∃ t i, t < 12 ∧ i < 8 ∧ a1 = nI t ∧ a2 = nI i ∧ fX8_isCell a1 a2 = 1 ∧ fX9_isEntry a1 a2 = 1 := by
  rcases rng a1 12 (by decide) with h1 | ⟨t, ht, rfl⟩
  · left
    constructor
    · unfold fX8_isCell
      by_cases h : a1 < 0
      · rw [if_pos h]
      · rw [if_neg h, if_pos (show (12 : Int32) ≤ a1 from h1.resolve_left h)]
    · unfold fX9_isEntry
      rw [show fX9_within a1 (0 : Int32) (11 : Int32) = 0 from within_out (N := 12) (by decide) (by decide) h1]
      rfl
  · rcases rng a2 8 (by decide) with h2 | ⟨i, hi, rfl⟩
    · left
      constructor
      · unfold fX8_isCell
        rw [if_neg (nI_pos (by omega)), if_neg (show ¬ (12 : Int32) ≤ nI t from nI_ge ht (by decide))]
        by_cases h : a2 < 0
        · rw [if_pos h]
        · rw [if_neg h, if_pos (show (8 : Int32) ≤ a2 from h2.resolve_left h)]
      · unfold fX9_isEntry
        rw [show fX9_within a2 (0 : Int32) (7 : Int32) = 0 from within_out (N := 8) (by decide) (by decide) h2, show fX9_within (nI t) (0 : Int32) (11 : Int32) = 1 from within_in (N := 12) ht (by decide)]
        rfl
    · right
      refine ⟨t, i, ht, hi, rfl, rfl, ?_, ?_⟩
      · unfold fX8_isCell
        rw [if_neg (nI_pos (by omega)), if_neg (show ¬ (12 : Int32) ≤ nI t from nI_ge ht (by decide)), if_neg (nI_pos (by omega)), if_neg (show ¬ (8 : Int32) ≤ nI i from nI_ge hi (by decide))]
      · unfold fX9_isEntry
        rw [show fX9_within (nI i) (0 : Int32) (7 : Int32) = 1 from within_in (N := 8) hi (by decide), show fX9_within (nI t) (0 : Int32) (11 : Int32) = 1 from within_in (N := 12) ht (by decide)]
        rfl
theorem nI_mul (a b : Nat) : nI a * nI b = nI (a * b) := (Int32.ofNat_mul a b).symm
theorem kind_eq (x : Int32) : fX8_kindOf x = fX9_whatOf x := rfl
theorem right_eq (x : Int32) : fX8_rightsOf x = fX9_rightsOf x := rfl
theorem targ_eq (x : Int32) : fX8_targetOf x = fX9_targetOf x := rfl
theorem cell_eq (t i : Nat) : fX8_cellOf (nI t) (nI i) = nI (t * 8 + i) := by
  unfold fX8_cellOf
  rw [show (8 : Int32) = nI 8 from rfl, nI_mul, nI_add]
