/-! PURE: the relation of the class's memory c and the reference's memory m -/
/-- an entry's number: kind, rights, target -/
def Vc (x : Int32) : Prop := ∃ k r t : Nat, x = nI (k + 4 * r + 64 * t) ∧ ((k = 0 ∧ r = 0 ∧ t = 0) ∨ (k = 1 ∧ r < 16 ∧ t < 12) ∨ (k = 2 ∧ r < 16 ∧ t < 1000))
/-- -1, or a number below N -/
def Vn (N : Nat) (x : Int32) : Prop := x = -1 ∨ ∃ k, k < N ∧ x = nI k
def Vk (N : Nat) (x : Int32) : Prop := ∃ k, k < N ∧ x = nI k
/-- tables -/
def RT (c m : Mm) : Prop := ∀ i, i < 96 → c 1 i = m 1 i ∧ c 2 i = m 1 (96 + i) ∧ Vc (m 1 i) ∧ Vk 4 (m 1 (96 + i))
/-- spaces -/
def RS (c m : Mm) : Prop := (∀ s, s < 6 → c 4 s = m 1 (326 + s) ∧ c 5 s = m 1 (332 + s) ∧ Vn 12 (m 1 (326 + s)) ∧ Vn 3 (m 1 (332 + s))) ∧ c 3 4 = m 1 344 ∧ Vn 6 (m 1 344) ∧ (∀ s t, s < 6 → t < 6 → m 1 (332 + s) = m 1 (332 + t) → m 1 (332 + s) ≠ -1 → s = t) ∧ (∀ s, s < 6 → m 1 344 = nI s → m 1 (332 + s) ≠ -1)
/-- when spaces ceased: ordered alike among holders that aren't current -/
def RC (n : Nat) (c m : Mm) : Prop := ∃ (x y : Nat → Nat) (kc km : Nat), c 3 3 = nI kc ∧ kc ≤ n ∧ m 1 320 = nI km ∧ km ≤ 16 * n ∧ (∀ s, s < 6 → c 6 s = nI (x s) ∧ m 1 (338 + s) = nI (y s) ∧ x s ≤ kc ∧ y s ≤ km) ∧ (∀ s t, s < 6 → t < 6 → m 1 (332 + s) ≠ -1 → m 1 (332 + t) ≠ -1 → m 1 344 ≠ nI s → m 1 344 ≠ nI t → (x s < x t ↔ y s < y t))
/-- a full place of the class's block B and the reference's index A -/
def RPf (B A : Nat) (c m : Mm) : Prop := c B 0 = 1 ∧ Vk 3 (m 1 A) ∧ c B 1 = m 1 A ∧ c B 2 = m 1 (A + 1) ∧ c B 3 = m 1 (A + 2) ∧ c B 4 = m 1 (A + 3) ∧ c B 5 = m 1 (A + 4) ∧ c B 6 = m 1 (A + 5) ∧ (∃ l f : Nat, l < 3 ∧ f < 512 ∧ m 1 (A + 1) = nI l ∧ m 1 (A + 2) = nI f ∧ f % 8 ^ l = 0) ∧ Vk 2 (m 1 (A + 5))
/-- the places of a cache (b: the class's first block, q: its store, a: the reference's first index) -/
def RP (n b q a : Nat) (c m : Mm) : Prop := ∃ (x y : Nat → Nat) (kc km : Nat), c q 1 = nI kc ∧ kc ≤ 16 * n ∧ m 1 320 = nI km ∧ km ≤ 16 * n ∧
  (∀ k, k < 6 → (RPf (b + k) (a + 7 * k) c m ∧ c (b + k) 7 = nI (x k) ∧ m 1 (a + 7 * k + 6) = nI (y k) ∧ x k ≤ kc ∧ y k ≤ km) ∨ (c (b + k) 0 = 0 ∧ m 1 (a + 7 * k) = -1)) ∧
  (∀ j k, j < 6 → k < 6 → c (b + j) 0 = 1 → c (b + k) 0 = 1 → ((x j < x k ↔ y j < y k) ∧ (x j = x k → j = k))) ∧
  (∀ j k, j < 6 → k < 6 → c (b + j) 0 = 1 → c (b + k) 0 = 1 → m 1 (a + 7 * j) = m 1 (a + 7 * k) → m 1 (a + 7 * j + 1) = m 1 (a + 7 * k + 1) → m 1 (a + 7 * j + 2) = m 1 (a + 7 * k + 2) → j = k)
/-- what a page's place and an upper's place hold -/
def RPv (c m : Mm) : Prop := (∀ k, k < 6 → c (9 + k) 0 = 1 → Vk 1000 (m 1 (192 + 7 * k + 3)) ∧ Vk 16 (m 1 (192 + 7 * k + 4))) ∧ (∀ k, k < 6 → c (17 + k) 0 = 1 → Vk 12 (m 1 (234 + 7 * k + 3)) ∧ Vk 8 (m 1 (234 + 7 * k + 4)) ∧ m 1 (234 + 7 * k + 1) ≠ 0)
/-- walkers -/
def RW1 (w a : Nat) (c m : Mm) : Prop := c w 0 = m 1 a ∧ Vk 5 (m 1 a) ∧ c w 1 = m 1 (a + 1) ∧ c w 2 = m 1 (a + 2) ∧ c w 3 = m 1 (a + 3) ∧ c w 4 = m 1 (a + 9) ∧ c w 8 = m 1 (a + 4) ∧ (m 1 a = 1 → c w 5 = m 1 (a + 6) ∧ c w 6 = m 1 (a + 7) ∧ c w 7 = m 1 (a + 8) ∧ Vk 3 (m 1 (a + 6)) ∧ Vk 12 (m 1 (a + 7)) ∧ Vk 8 (m 1 (a + 8)) ∧ Vk 512 (m 1 (a + 1)) ∧ Vk 8 (m 1 (a + 2)) ∧ Vk 2 (m 1 (a + 3)) ∧ Vk 3 (m 1 (a + 9))) ∧ (m 1 a = 2 ∨ m 1 a = 3 → c w 9 = m 1 (a + 5))
def RW (c m : Mm) : Prop := ∀ k, k < 4 → RW1 (24 + 2 * k) (276 + 11 * k) c m
/-- counters -/
def RN (c m : Mm) : Prop := c 0 11 = m 1 321 ∧ c 0 12 = m 1 322 ∧ c 0 13 = m 1 323 ∧ c 0 14 = m 1 324 ∧ c 0 15 = m 1 325
/-- a change that is remembered -/
def Vch (key was : Int32) : Prop := (∃ i, i < 96 ∧ key = nI i ∧ Vc was) ∨ (∃ s, s < 6 ∧ key = nI (96 + s) ∧ Vn 12 was)
/-- changes -/
def RH (n : Nat) (c m : Mm) : Prop := ∃ t : Nat, t ≤ n ∧ c 37 2 = nI t ∧ m 0 7 = nI t ∧ m 0 6 = nI (min t 40) ∧ ∀ j, j < min t 40 → m 3 j = c 38 ((t - min t 40 + j) % 40) ∧ m 4 j = c 39 ((t - min t 40 + j) % 40) ∧ m 5 j = nI (t - min t 40 + j + 1) ∧ Vch (m 3 j) (m 4 j)
/-- fences -/
def RF (n cap : Nat) (c m : Mm) : Prop := c 40 1 = m 0 8 ∧ Vk (n + 1) (m 0 8) ∧ (∀ s, s < 6 → c 41 s = m 6 s ∧ Vk (n + 1) (m 6 s)) ∧ (cap = 8 ∨ cap = 16 ∨ cap = 32 ∨ cap = 64 ∨ cap = 128 ∨ cap = 256 ∨ cap = 512) ∧
  ∃ k : Nat, k ≤ n ∧ k ≤ cap ∧ c 40 4 = nI k ∧ (∀ j, j < k → (∃ z, z < 3072 ∧ c 42 j = nI z) ∧ Vk (n + 1) (c 43 j)) ∧ (∀ i j, i < k → j < k → c 42 i = c 42 j → i = j) ∧ (∀ z, z < 3072 → (∃ j, j < k ∧ c 42 j = nI z ∧ m 7 z = c 43 j) ∨ ((∀ j, j < k → c 42 j ≠ nI z) ∧ m 7 z = 0))
/-- whose tags are held -/
def RLk (m : Mm) : Prop := (∀ k, k < 6 → m 1 (192 + 7 * k) ≠ -1 → ∃ s, s < 6 ∧ m 1 (332 + s) = m 1 (192 + 7 * k)) ∧ (∀ k, k < 6 → m 1 (234 + 7 * k) ≠ -1 → ∃ s, s < 6 ∧ m 1 (332 + s) = m 1 (234 + 7 * k)) ∧ (∀ k, k < 4 → m 1 (276 + 11 * k) = 1 → ∃ s, s < 6 ∧ m 1 (332 + s) = m 1 (276 + 11 * k + 9))
def Rel (n cap : Nat) (c m : Mm) : Prop := RT c m ∧ RS c m ∧ RC n c m ∧ RP n 9 7 192 c m ∧ RP n 17 15 234 c m ∧ RPv c m ∧ RW c m ∧ RN c m ∧ RH n c m ∧ RF n cap c m ∧ RLk m
/-- blocks of the class that hold nothing between calls -/
def scr (b : Nat) : Bool := b == 25 || b == 27 || b == 29 || b == 31 || b == 32 || b == 33 || b == 34 || b == 35 || b == 36 || b == 45
def Sc (c c' : Mm) : Prop := ∀ b, scr b = false → c' b = c b
def Sm (m m' : Mm) : Prop := m' 1 = m 1 ∧ m' 0 6 = m 0 6 ∧ m' 0 7 = m 0 7 ∧ m' 0 8 = m 0 8 ∧ ∀ b, 3 ≤ b → b ≤ 7 → m' b = m b
theorem Sc.rf {c : Mm} : Sc c c := fun _ _ => rfl
theorem Sc.tr {c d e : Mm} (h : Sc c d) (g : Sc d e) : Sc c e := fun b hb => (g b hb).trans (h b hb)
theorem Sc.wr {c : Mm} (b i : Nat) (v : Int32) (h : scr b = true) : Sc c (wr c b i v) := fun z hz => by
  funext j
  refine wr_b c i j v (fun e => ?_)
  rw [e, h] at hz
  cases hz
theorem Sm.rf {m : Mm} : Sm m m := ⟨rfl, rfl, rfl, rfl, fun _ _ _ => rfl⟩
theorem Sm.tr {c d e : Mm} (h : Sm c d) (g : Sm d e) : Sm c e := ⟨g.1.trans h.1, g.2.1.trans h.2.1, g.2.2.1.trans h.2.2.1, g.2.2.2.1.trans h.2.2.2.1, fun b h1 h2 => (g.2.2.2.2 b h1 h2).trans (h.2.2.2.2 b h1 h2)⟩
theorem Sm.wr0 {m : Mm} (i : Nat) (v : Int32) (h : i ≠ 6 ∧ i ≠ 7 ∧ i ≠ 8) : Sm m (wr m 0 i v) := ⟨wr_ne m i v (by decide), wr_i m 0 v (Ne.symm h.1), wr_i m 0 v (Ne.symm h.2.1), wr_i m 0 v (Ne.symm h.2.2), fun b h1 _ => wr_ne m i v (by omega)⟩
theorem Sm.wrB {m : Mm} (b i : Nat) (v : Int32) (h : b = 2 ∨ 8 ≤ b) : Sm m (wr m b i v) := ⟨wr_ne m i v (by omega), wr_b m i 6 v (by omega), wr_b m i 7 v (by omega), wr_b m i 8 v (by omega), fun z h1 h2 => wr_ne m i v (by omega)⟩
theorem Vk.le {N M : Nat} {x : Int32} (h : N ≤ M) (v : Vk N x) : Vk M x := by
  obtain ⟨k, h1, h2⟩ := v
  exact ⟨k, by omega, h2⟩
theorem Rel.scr {n cap : Nat} {c m c' m' : Mm} (h : Rel n cap c m) (hc : Sc c c') (hm : Sm m m') : Rel n cap c' m' := by
  obtain ⟨m1, m6, m7, m8, mb⟩ := hm
  have b0 := hc 0 rfl; have b1 := hc 1 rfl; have b2 := hc 2 rfl; have b3 := hc 3 rfl; have b4 := hc 4 rfl; have b5 := hc 5 rfl; have b6 := hc 6 rfl
  have b7 := hc 7 rfl; have b15 := hc 15 rfl; have b37 := hc 37 rfl; have b38 := hc 38 rfl; have b39 := hc 39 rfl; have b40 := hc 40 rfl; have b41 := hc 41 rfl; have b42 := hc 42 rfl; have b43 := hc 43 rfl
  have p3 := mb 3 (by decide) (by decide); have p4 := mb 4 (by decide) (by decide); have p5 := mb 5 (by decide) (by decide); have p6 := mb 6 (by decide) (by decide); have p7 := mb 7 (by decide) (by decide)
  have bP : ∀ k, k < 6 → c' (9 + k) = c (9 + k) := fun k hk => hc _ (by rcases (show k = 0 ∨ k = 1 ∨ k = 2 ∨ k = 3 ∨ k = 4 ∨ k = 5 by omega) with rfl | rfl | rfl | rfl | rfl | rfl <;> rfl)
  have bU : ∀ k, k < 6 → c' (17 + k) = c (17 + k) := fun k hk => hc _ (by rcases (show k = 0 ∨ k = 1 ∨ k = 2 ∨ k = 3 ∨ k = 4 ∨ k = 5 by omega) with rfl | rfl | rfl | rfl | rfl | rfl <;> rfl)
  have bW : ∀ k, k < 4 → c' (24 + 2 * k) = c (24 + 2 * k) := fun k hk => hc _ (by rcases (show k = 0 ∨ k = 1 ∨ k = 2 ∨ k = 3 by omega) with rfl | rfl | rfl | rfl <;> rfl)
  have hRP : ∀ (b q a : Nat), (∀ k, k < 6 → c' (b + k) = c (b + k)) → c' q = c q → RP n b q a c m → RP n b q a c' m' := by
    intro b q a hb hq hr
    obtain ⟨x, y, kc, km, r1, r2, r3, r4, r5, r6, r7⟩ := hr
    refine ⟨x, y, kc, km, by rw [hq]; exact r1, r2, by rw [m1]; exact r3, r4, fun k hk => ?_, fun j k hj hk => ?_, fun j k hj hk => ?_⟩
    · have := r5 k hk
      unfold RPf at this ⊢
      rw [hb k hk, m1]
      exact this
    · have := r6 j k hj hk
      rw [hb j hj, hb k hk]
      exact this
    · have := r7 j k hj hk
      rw [hb j hj, hb k hk, m1]
      exact this
  obtain ⟨h1, h2, h3, h4, h5, h6, h7, h8, h9, h10, h11⟩ := h
  refine ⟨?_, ?_, ?_, hRP 9 7 192 bP b7 h4, hRP 17 15 234 bU b15 h5, ?_, ?_, ?_, ?_, ?_, ?_⟩
  · unfold RT at h1 ⊢
    rw [b1, b2, m1]; exact h1
  · unfold RS at h2 ⊢
    rw [b3, b4, b5, m1]; exact h2
  · unfold RC at h3 ⊢
    rw [b3, b6, m1]; exact h3
  · refine ⟨fun k hk => ?_, fun k hk => ?_⟩
    · have := h6.1 k hk
      rw [bP k hk, m1]; exact this
    · have := h6.2 k hk
      rw [bU k hk, m1]; exact this
  · intro k hk
    have := h7 k hk
    unfold RW1 at this ⊢
    rw [bW k hk, m1]; exact this
  · unfold RN at h8 ⊢
    rw [b0, m1]; exact h8
  · unfold RH at h9 ⊢
    rw [b37, b38, b39, m6, m7, p3, p4, p5]; exact h9
  · unfold RF at h10 ⊢
    rw [b40, b41, b42, b43, m8, p6, p7]; exact h10
  · unfold RLk at h11 ⊢
    rw [m1]; exact h11
theorem Rel.mono {n cap : Nat} {c m : Mm} (h : Rel n cap c m) : Rel (n + 1) cap c m := by
  have hRP : ∀ (b q a : Nat), RP n b q a c m → RP (n + 1) b q a c m := by
    intro b q a hr
    obtain ⟨x, y, kc, km, r1, r2, r3, r4, r5⟩ := hr
    exact ⟨x, y, kc, km, r1, by omega, r3, by omega, r5⟩
  obtain ⟨h1, h2, h3, h4, h5, h6, h7, h8, h9, h10, h11⟩ := h
  refine ⟨h1, h2, ?_, hRP _ _ _ h4, hRP _ _ _ h5, h6, h7, h8, ?_, ?_, h11⟩
  · obtain ⟨x, y, kc, km, r1, r2, r3, r4, r5⟩ := h3
    exact ⟨x, y, kc, km, r1, by omega, r3, by omega, r5⟩
  · obtain ⟨t, r1, r2⟩ := h9
    exact ⟨t, by omega, r2⟩
  · obtain ⟨r1, r2, r3, r4, k, r5, r6, r7, r8, r9⟩ := h10
    refine ⟨r1, r2.le (by omega), fun s hs => ⟨(r3 s hs).1, (r3 s hs).2.le (by omega)⟩, r4, k, by omega, r6, r7, fun j hj => ⟨(r8 j hj).1, (r8 j hj).2.le (by omega)⟩, r9⟩
theorem Rel.next {n cap : Nat} {c m c' m' : Mm} (h : Rel n cap c m) (hc : Sc c c') (hm : Sm m m') : Rel (n + 1) cap c' m' := (h.scr hc hm).mono
