/-! PURE: how indices and tests are brought to one form -/
theorem na0 (x : Nat) : nI x + (0 : Int32) = nI x := nI_add x 0
theorem na1 (x : Nat) : nI x + (1 : Int32) = nI (x + 1) := nI_add x 1
theorem na2 (x : Nat) : nI x + (2 : Int32) = nI (x + 2) := nI_add x 2
theorem na3 (x : Nat) : nI x + (3 : Int32) = nI (x + 3) := nI_add x 3
theorem na4 (x : Nat) : nI x + (4 : Int32) = nI (x + 4) := nI_add x 4
theorem na5 (x : Nat) : nI x + (5 : Int32) = nI (x + 5) := nI_add x 5
theorem na6 (x : Nat) : nI x + (6 : Int32) = nI (x + 6) := nI_add x 6
theorem na7 (x : Nat) : nI x + (7 : Int32) = nI (x + 7) := nI_add x 7
theorem na8 (x : Nat) : nI x + (8 : Int32) = nI (x + 8) := nI_add x 8
theorem na9 (x : Nat) : nI x + (9 : Int32) = nI (x + 9) := nI_add x 9
theorem i192 (k : Nat) : (192 : Int32) + (7 : Int32) * nI k = nI (192 + 7 * k) := by
  rw [show (7 : Int32) = nI 7 from rfl, show (192 : Int32) = nI 192 from rfl, nI_mul, nI_add]
theorem i234 (k : Nat) : (234 : Int32) + (7 : Int32) * nI k = nI (234 + 7 * k) := by
  rw [show (7 : Int32) = nI 7 from rfl, show (234 : Int32) = nI 234 from rfl, nI_mul, nI_add]
theorem i276 (k : Nat) : (276 : Int32) + (11 : Int32) * nI k = nI (276 + 11 * k) := by
  rw [show (11 : Int32) = nI 11 from rfl, show (276 : Int32) = nI 276 from rfl, nI_mul, nI_add]
theorem i326 (k : Nat) : (326 : Int32) + nI k = nI (326 + k) := nI_add 326 k
theorem i332 (k : Nat) : (332 : Int32) + nI k = nI (332 + k) := nI_add 332 k
theorem i338 (k : Nat) : (338 : Int32) + nI k = nI (338 + k) := nI_add 338 k
theorem i96 (k : Nat) : (96 : Int32) + nI k = nI (96 + k) := nI_add 96 k
theorem i0 (k : Nat) : (0 : Int32) + nI k = nI k := (nI_add 0 k).trans (by rw [Nat.zero_add])
theorem i8 (k : Nat) : (8 : Int32) * nI k = nI (8 * k) := nI_mul 8 k
theorem ge6F {k : Nat} (h : k < 6) : ((6 : Int32) ≤ nI k) = False := eq_false (show ¬ nI 6 ≤ nI k from nI_ge h (by decide))
theorem ge6T : ((6 : Int32) ≤ nI 6) = True := eq_true (by decide)
theorem ge4F {k : Nat} (h : k < 4) : ((4 : Int32) ≤ nI k) = False := eq_false (show ¬ nI 4 ≤ nI k from nI_ge h (by decide))
theorem ge4T : ((4 : Int32) ≤ nI 4) = True := eq_true (by decide)
theorem ltz {k : Nat} (h : k < 2 ^ 31) : (nI k < 0) = False := eq_false (nI_pos h)
theorem lez {k : Nat} (h : k < 2 ^ 31) : ((0 : Int32) ≤ nI k) = True := eq_true (nI_le (a := 0) (Nat.zero_le k) h)
theorem l21 : ((2 : Int32) = 1) = False := eq_false (by decide)
theorem l12 : ((1 : Int32) = 2) = False := eq_false (by decide)
theorem l20 : ((2 : Int32) = 0) = False := eq_false (by decide)
theorem one_eq0 : ((1 : Int32) = 0) = False := eq_false (by decide)
theorem zero_eq0 : ((0 : Int32) = 0) = True := eq_true rfl
theorem glit320 {α : Type} {k : Option α} : gd (320 : Int32) 345 k = k := rfl
theorem glit321 {α : Type} {k : Option α} : gd (321 : Int32) 345 k = k := rfl
theorem glit322 {α : Type} {k : Option α} : gd (322 : Int32) 345 k = k := rfl
theorem glit323 {α : Type} {k : Option α} : gd (323 : Int32) 345 k = k := rfl
theorem glit324 {α : Type} {k : Option α} : gd (324 : Int32) 345 k = k := rfl
theorem glit325 {α : Type} {k : Option α} : gd (325 : Int32) 345 k = k := rfl
theorem glit344 {α : Type} {k : Option α} : gd (344 : Int32) 345 k = k := rfl
theorem cl320 : (320 : Int32).toNatClampNeg = 320 := rfl
theorem cl321 : (321 : Int32).toNatClampNeg = 321 := rfl
theorem cl322 : (322 : Int32).toNatClampNeg = 322 := rfl
theorem cl323 : (323 : Int32).toNatClampNeg = 323 := rfl
theorem cl324 : (324 : Int32).toNatClampNeg = 324 := rfl
theorem cl325 : (325 : Int32).toNatClampNeg = 325 := rfl
theorem cl344 : (344 : Int32).toNatClampNeg = 344 := rfl
theorem nI_inj {a b : Nat} (ha : a < 2 ^ 31) (hb : b < 2 ^ 31) (h : nI a = nI b) : a = b := by
  have := congrArg Int32.toInt h
  rw [nI_toInt ha, nI_toInt hb] at this
  omega
theorem ninj {a b : Nat} (ha : a < 2 ^ 31) (hb : b < 2 ^ 31) : (nI a = nI b) = (a = b) := propext ⟨nI_inj ha hb, fun h => by rw [h]⟩
theorem m1ne {k : Nat} (h : k < 2 ^ 31) : (nI k = -1) = False := eq_false (fun e => nI_pos h (by rw [e]; decide))
theorem nle {a b : Nat} (ha : a < 2 ^ 31) (hb : b < 2 ^ 31) : (nI a ≤ nI b) = (a ≤ b) := propext ⟨fun h => by
  rw [fa_le, nI_toInt ha, nI_toInt hb] at h
  omega, fun h => nI_le h hb⟩
theorem nlt {a b : Nat} (ha : a < 2 ^ 31) (hb : b < 2 ^ 31) : (nI a < nI b) = (a < b) := propext ⟨fun h => by
  rw [fa_lt, nI_toInt ha, nI_toInt hb] at h
  omega, fun h => nI_lt h hb⟩
/-- a loop over k = .. N - 1, told from its end -/
theorem down {P : Nat → Nat → Prop} (N : Nat) (h0 : ∀ f, P (f + 1) N) (hs : ∀ f k, k < N → P f (k + 1) → P (f + 1) k) : ∀ d k f, k + d = N → d < f → P f k := by
  intro d
  induction d with
  | zero =>
    intro k f h hf
    obtain ⟨g, rfl⟩ : ∃ g, f = g + 1 := ⟨f - 1, by omega⟩
    have : k = N := by omega
    rw [this]; exact h0 g
  | succ d ih =>
    intro k f h hf
    obtain ⟨g, rfl⟩ : ∃ g, f = g + 1 := ⟨f - 1, by omega⟩
    exact hs g k (by omega) (ih (k + 1) g (by omega) (by omega))
theorem Vn.cases {N : Nat} {x : Int32} (h : Vn N x) : x = -1 ∨ ∃ k, k < N ∧ x = nI k := h
theorem m1lt : ((-1 : Int32) < 0) = True := eq_true (by decide)
theorem m1le : ((0 : Int32) ≤ -1) = False := eq_false (by decide)
theorem m1eq : ((-1 : Int32) = -1) = True := eq_true rfl
theorem m1n {k : Nat} (h : k < 2 ^ 31) : (-1 = nI k) = False := eq_false (fun e => nI_pos h (by rw [← e]; decide))
/-- agreement of the reference's row on a range -/
def Ea (lo hi : Nat) (m m' : Mm) : Prop := ∀ i, lo ≤ i → i < hi → m' 1 i = m 1 i
theorem Ea.of {m m' : Mm} (lo hi : Nat) (h : m' 1 = m 1) : Ea lo hi m m' := fun i _ _ => by rw [h]
theorem Ea.w1 {m m' : Mm} {lo hi j : Nat} {v : Int32} (h : Ea lo hi m m') (hj : j < lo ∨ hi ≤ j) : Ea lo hi m (wr m' 1 j v) := fun i h1 h2 => by
  rw [wr_i m' 1 v (by omega)]; exact h i h1 h2
theorem Ea.wb {m m' : Mm} {lo hi b j : Nat} {v : Int32} (h : Ea lo hi m m') (hb : 1 ≠ b) : Ea lo hi m (wr m' b j v) := fun i h1 h2 => by
  rw [wr_b m' j i v hb]; exact h i h1 h2
theorem Ea.rf {m : Mm} {lo hi : Nat} : Ea lo hi m m := fun _ _ _ => rfl
theorem Ea.tr {m m' m'' : Mm} {lo hi : Nat} (h : Ea lo hi m m') (g : Ea lo hi m' m'') : Ea lo hi m m'' := fun i h1 h2 => (g i h1 h2).trans (h i h1 h2)
theorem Ea.sub {m m' : Mm} {lo hi : Nat} (h : Ea lo hi m m') {l2 h2 : Nat} (ha : lo ≤ l2) (hb : h2 ≤ hi) : Ea l2 h2 m m' := fun i h1 h3 => h i (by omega) (by omega)
theorem RT.cg {c m c' m' : Mm} (h : RT c m) (h1 : c' 1 = c 1) (h2 : c' 2 = c 2) (e : Ea 0 192 m m') : RT c' m' := fun i hi => by
  rw [h1, h2, e i (by omega) (by omega), e (96 + i) (by omega) (by omega)]; exact h i hi
theorem RS.cg {c m c' m' : Mm} (h : RS c m) (h3 : c' 3 4 = c 3 4) (h4 : c' 4 = c 4) (h5 : c' 5 = c 5) (e : Ea 326 338 m m') (e2 : m' 1 344 = m 1 344) : RS c' m' := by
  obtain ⟨r1, r2, r3, r4, r5⟩ := h
  refine ⟨fun s hs => ?_, by rw [h3, e2]; exact r2, by rw [e2]; exact r3, fun s t hs ht => ?_, fun s hs => ?_⟩
  · rw [h4, h5, e (326 + s) (by omega) (by omega), e (332 + s) (by omega) (by omega)]; exact r1 s hs
  · rw [e (332 + s) (by omega) (by omega), e (332 + t) (by omega) (by omega)]; exact r4 s t hs ht
  · rw [e (332 + s) (by omega) (by omega), e2]; exact r5 s hs
