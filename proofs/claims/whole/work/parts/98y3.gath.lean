/-! PURE: what was, since a fence: the class's side -/
theorem bt1j : ∀ j, j < 32 → bt (1 : Int32) j = decide (j = 0) := by decide +kernel
theorem bt_sh {n i : Nat} (hn : n < 32) (hi : i < 32) : bt ((1 : Int32) <<< (nI n &&& 31)) i = decide (i = n) := by
  rw [b_shl n hn 1 hi]
  by_cases h : n ≤ i
  · rw [bt1j _ (by omega), decide_eq_true h, Bool.true_and]
    by_cases e : i = n
    · rw [decide_eq_true (by omega), decide_eq_true e]
    · rw [decide_eq_false (by omega), decide_eq_false e]
  · rw [decide_eq_false h, Bool.false_and, decide_eq_false (by omega)]
theorem and_bit {x : Int32} {n : Nat} (hn : n < 32) : x &&& ((1 : Int32) <<< (nI n &&& 31)) = 0 ↔ bt x n = false := by
  constructor
  · intro h
    have e := b_and x ((1 : Int32) <<< (nI n &&& 31)) n
    rw [h, b_0, bt_sh hn hn, decide_eq_true rfl, Bool.and_true] at e
    exact e.symm
  · intro h
    apply b_ext
    intro i hi
    rw [b_and, bt_sh hn hi, b_0]
    by_cases e : i = n
    · subst e
      rw [h, Bool.false_and]
    · rw [decide_eq_false e, Bool.and_false]
def Hs (c : Mm) (f : Nat) : Prop := bt (c 45 (f / 32)) (f % 32) = true
def AdC (P : Nat → Prop) (c c' : Mm) : Prop := ∀ f, f < 1088 → (Hs c' f ↔ (Hs c f ∨ P f))
theorem AdC.rf {P : Nat → Prop} {c c' : Mm} (h : c' 45 = c 45) (hn : ∀ f, f < 1088 → ¬ P f) : AdC P c c' := fun f hf => by
  unfold Hs
  rw [h]
  exact ⟨Or.inl, fun z => z.resolve_right (hn f hf)⟩
theorem AdC.tr {P Q R : Nat → Prop} {c c' c'' : Mm} (h : AdC P c c') (g : AdC Q c' c'') (hR : ∀ f, f < 1088 → (R f ↔ (P f ∨ Q f))) : AdC R c c'' := fun f hf => by
  rw [g f hf, h f hf, hR f hf, or_assoc]
theorem AdC.cg {P Q : Nat → Prop} {c c' : Mm} (h : AdC P c c') (hP : ∀ f, f < 1088 → (Q f ↔ P f)) : AdC Q c c' := fun f hf => by
  rw [hP f hf]
  exact h f hf
theorem add_sp {c : Mm} {f : Nat} (hf : f < 1088) : ∃ c', fX2_add c (nI f) = some (c', ()) ∧ (∀ b, b ≠ 45 → c' b = c b) ∧ AdC (fun z => z = f) c c' := by
  unfold fX2_add
  have e1 : nI f / (32 : Int32) = nI (f / 32) := pk_div (d := 32) (by omega) (by decide) (by decide)
  have e2 : nI f - nI (f / 32) * (32 : Int32) = nI (f % 32) := by
    have := pk_rem (a := f) (d := 32) (by omega) (by decide) (by decide)
    rw [← this, ← e1]
    rfl
  have d1 : f / 32 < 34 := by omega
  rw [if_neg (nI_pos (by omega)), e1, e2, if_neg (show ¬ (34 : Int32) ≤ nI (f / 32) from nI_ge (b := 34) d1 (by decide)), gd_nI d1 (by decide), gd_nI d1 (by decide), wk_eq, nI_clamp (by omega)]
  refine ⟨_, rfl, fun b hb => wr_ne _ _ _ hb, fun z hz => ?_⟩
  unfold Hs
  by_cases e : z / 32 = f / 32
  · rw [e, wr_same, b_or, bt_sh (by omega) (by omega), Bool.or_eq_true, decide_eq_true_iff]
    constructor
    · rintro (h | h)
      · exact Or.inl h
      · exact Or.inr (by omega)
    · rintro (h | h)
      · exact Or.inl h
      · exact Or.inr (by omega)
  · rw [wr_i _ _ _ e]
    exact ⟨Or.inl, fun h => h.resolve_right (fun h => e (by rw [h]))⟩
theorem bitOf_m1 : fX8_bitOf (-1) = 0 := rfl
theorem bitOf_n {t u : Nat} (ht : t < 32) (hu : u < 32) : bt (fX8_bitOf (nI t)) u = decide (u = t) := by
  unfold fX8_bitOf
  rw [if_neg (by rw [m1ne (by omega)]; exact id), bt_sh ht hu]
theorem gcode_sp {c : Mm} {v g : Int32} {rest : Nat} (hr : rest < 64) (vc : Vc v) : ∃ c' r, fX8_gatherCode c v (nI rest) g = some (c', r) ∧ (∀ b, b ≠ 45 → c' b = c b) ∧ AdC (fun f => Pg g v f rest) c c' ∧ ∀ u, u < 12 → (bt r u = true ↔ (fX9_whatOf v = 1 ∧ fX9_targetOf v = nI u)) := by
  unfold fX8_gatherCode
  rw [kind_eq, right_eq, targ_eq]
  rcases vc.parts with ⟨k0, -⟩ | ⟨k1, ⟨t, ht, et⟩, -⟩ | ⟨k2, ⟨t, ht, et⟩, -⟩
  · rw [if_neg (by rw [k0]; decide), if_neg (by rw [k0]; decide)]
    refine ⟨c, 0, rfl, fun _ _ => rfl, AdC.rf rfl (fun f _ z => absurd (k0.symm.trans z.1) (by decide)), fun u hu => ?_⟩
    rw [b_0, k0]
    exact ⟨fun h => (by cases h), fun h => absurd h.1 (by decide)⟩
  · rw [if_pos k1, et]
    refine ⟨c, _, rfl, fun _ _ => rfl, AdC.rf rfl (fun f _ z => absurd (k1.symm.trans z.1) (by decide)), fun u hu => ?_⟩
    rw [bitOf_n (by omega) (by omega), decide_eq_true_iff, ninj (by omega) (by omega)]
    exact ⟨fun h => ⟨k1, h.symm⟩, fun h => h.2.symm⟩
  · have nz : ∀ u, u < 12 → (bt (0 : Int32) u = true ↔ (fX9_whatOf v = 1 ∧ fX9_targetOf v = nI u)) := fun u hu => by
      rw [b_0, k2]
      exact ⟨fun h => (by cases h), fun h => absurd h.1 (by decide)⟩
    rw [if_neg (by rw [k2]; decide), if_pos k2]
    have b38 : (g = 0 ∨ ¬ fX9_rightsOf v &&& 8 = 0) → ∃ c' r, fX8_gatherCode_b38 c v (nI rest) = some (c', r) ∧ (∀ b, b ≠ 45 → c' b = c b) ∧ AdC (fun f => Pg g v f rest) c c' ∧ ∀ u, u < 12 → (bt r u = true ↔ (fX9_whatOf v = 1 ∧ fX9_targetOf v = nI u)) := fun hg => by
      unfold fX8_gatherCode_b38
      obtain ⟨c', a1, a2, a3⟩ := add_sp (c := c) (f := t + rest) (by omega)
      rw [targ_eq, et, nI_add, a1, bw_eq]
      rw [et] at nz
      refine ⟨c', 0, rfl, a2, a3.cg (fun f hf => ?_), nz⟩
      constructor
      · rintro ⟨-, -, u, hu, eu, ef⟩
        rw [et] at eu
        rw [ef, nI_inj (by omega) (by omega) eu]
      · rintro rfl
        exact ⟨k2, hg, t, ht, et, rfl⟩
    by_cases hg : g = 0
    · rw [if_pos hg]; exact b38 (Or.inl hg)
    · rw [if_neg hg]
      by_cases h8 : fX9_rightsOf v &&& 8 = 0
      · rw [if_pos h8]
        exact ⟨c, 0, rfl, fun _ _ => rfl, AdC.rf rfl (fun f _ z => z.2.1.elim hg (fun y => y h8)), nz⟩
      · rw [if_neg h8]; exact b38 (Or.inr h8)
/-- the class's tables and changes, as the reference has them -/
def Cv (c m : Mm) (q base : Nat) : Prop := c 37 2 = nI (base + q) ∧ base + q ≤ 600 ∧ q = min (base + q) 40 ∧ (∀ j, j < q → c 38 ((base + j) % 40) = m 3 j ∧ c 39 ((base + j) % 40) = m 4 j) ∧ (∀ i, i < 96 → c 1 i = m 1 i) ∧ ∀ s, s < 6 → c 4 s = m 1 (326 + s)
theorem Cv.cg {c c' m : Mm} {q base : Nat} (h : Cv c m q base) (e : ∀ b, b ≠ 45 → c' b = c b) : Cv c' m q base := by
  unfold Cv
  rw [e 37 (by decide), e 38 (by decide), e 39 (by decide), e 1 (by decide), e 4 (by decide)]
  exact h
theorem since_sp {c m : Mm} {q base σ : Nat} (h : Cv c m q base) (hσ : σ ≤ 600) : fX0_firstSince c (nI σ) = some (nI (max σ base)) := by
  obtain ⟨h1, h2, h3, -⟩ := h
  unfold fX0_firstSince fX0_remembered
  have e : (if (40 : Int32) < nI (base + q) then (40 : Int32) else nI (base + q)) = nI q := by
    by_cases h : 40 < base + q
    · rw [if_pos (show (40 : Int32) < nI (base + q) from nI_lt (a := 40) h (by omega))]
      have : q = 40 := by omega
      rw [this]; rfl
    · rw [if_neg (show ¬ (40 : Int32) < nI (base + q) from nI_nlt (a := 40) (by omega) (by omega))]
      have : base = 0 := by omega
      rw [this, Nat.zero_add]
  rw [h1, e, bd_eq, pk_sub (show q ≤ base + q by omega), Nat.add_sub_cancel]
  by_cases h : σ < base
  · rw [if_pos (nI_lt h (by omega)), Nat.max_eq_right (by omega)]
  · rw [if_neg (nI_nlt (by omega) (by omega)), Nat.max_eq_left (by omega)]
theorem mod40 {k : Nat} (hk : k < 2 ^ 31) : nI k - nI k / (40 : Int32) * (40 : Int32) = nI (k % 40) := pk_rem (d := 40) hk (by decide) (by decide)
theorem key_sp {c : Mm} {k : Nat} (hk : k < 2 ^ 31) : fX0_keyAt c (nI k) = some (c 38 (k % 40)) ∧ fX0_beforeAt c (nI k) = some (c 39 (k % 40)) := by
  unfold fX0_keyAt fX0_beforeAt
  rw [mod40 hk, gd_nI (Nat.mod_lt _ (by decide)) (by decide), gd_nI (Nat.mod_lt _ (by decide)) (by decide), nI_clamp (by omega)]
  exact ⟨rfl, rfl⟩
theorem upto {P : Nat → Nat → Prop} (N : Nat) (hN : N ≤ 600) (h0 : ∀ f k, N ≤ k → k ≤ 600 → P (f + 1) k) (hs : ∀ f k, k < N → P f (k + 1) → P (f + 1) k) : ∀ d k f, N ≤ k + d → k ≤ 600 → d < f → P f k := by
  intro d
  induction d with
  | zero =>
    intro k f h hk hf
    obtain ⟨g, rfl⟩ : ∃ g, f = g + 1 := ⟨f - 1, by omega⟩
    exact h0 g k (by omega) hk
  | succ d ih =>
    intro k f h hk hf
    obtain ⟨g, rfl⟩ : ∃ g, f = g + 1 := ⟨f - 1, by omega⟩
    by_cases e : N ≤ k
    · exact h0 g k e hk
    · exact hs g k (by omega) (ih (k + 1) g (by omega) (by omega) (by omega))
theorem roots_sp {c m : Mm} {q base σ s : Nat} (hC : Cv c m q base) (hE : Ev m q base) (hσ : σ ≤ 600) (hs : s < 6) : ∃ r, fX8_rootsSince c (nI s) (nI σ) = some r ∧ ∀ u, u < 12 → (bt r u = true ↔ Vs m q base σ (nI (96 + s)) (m 1 (326 + s)) (nI u)) := by
  obtain ⟨h1, h2, h3, h4, h5, h6⟩ := id hC
  have bb : ∀ v, Vn 12 v → ∀ u, u < 12 → (bt (fX8_bitOf v) u = true ↔ v = nI u) := fun v hv u hu => by
    rcases hv with rfl | ⟨t, ht, rfl⟩
    · rw [bitOf_m1, b_0, m1n (by omega)]
      exact ⟨fun h => (by cases h), fun h => h.elim⟩
    · rw [bitOf_n (by omega) (by omega), decide_eq_true_iff, ninj (by omega) (by omega)]
      exact ⟨Eq.symm, Eq.symm⟩
  unfold fX8_rootsSince
  rw [gd_nI hs (by decide), nI_clamp (by omega), h6 s hs, lk_eq, since_sp hC hσ, bd_eq]
  have key := upto (P := fun fu k => base ≤ k → ∀ x3, ∃ r, fX8_rootsSince_b23 fu c (nI s) x3 (nI k) = some r ∧ ∀ u, u < 12 → (bt r u = true ↔ (bt x3 u = true ∨ ∃ j, j < q ∧ k ≤ base + j ∧ m 3 j = nI (96 + s) ∧ nI u = m 4 j))) (base + q) h2 ?_ ?_ (base + q) (max σ base) 2000 (by omega) (by omega) (by omega) (by omega) (fX8_bitOf (m 1 (326 + s)))
  · obtain ⟨r, k1, k2⟩ := key
    refine ⟨r, k1, fun u hu => ?_⟩
    rw [k2 u hu, bb _ (hE.2.2 σ s _ hs (Or.inl rfl)) u hu]
    constructor
    · rintro (h | ⟨j, j1, j2, j3, j4⟩)
      · exact Or.inl h.symm
      · exact Or.inr ⟨j, j1, by omega, j3, j4⟩
    · rintro (h | ⟨j, j1, j2, j3, j4⟩)
      · exact Or.inl h.symm
      · exact Or.inr ⟨j, j1, by omega, j3, j4⟩
  · intro fu k hk hk6 hb x3
    have L : fX8_rootsSince_b23 (fu + 1) c (nI s) x3 (nI k) = fX8_rootsSince_b23_s (fX8_rootsSince_b23 fu) c (nI s) x3 (nI k) := rfl
    rw [L]
    unfold fX8_rootsSince_b23_s
    rw [h1, if_pos (nI_le hk (by omega))]
    refine ⟨x3, rfl, fun u hu => ⟨Or.inl, fun h => h.resolve_right (fun ⟨j, j1, j2, _⟩ => by omega)⟩⟩
  · intro fu k hk ih hb x3
    have L : fX8_rootsSince_b23 (fu + 1) c (nI s) x3 (nI k) = fX8_rootsSince_b23_s (fX8_rootsSince_b23 fu) c (nI s) x3 (nI k) := rfl
    rw [L]
    unfold fX8_rootsSince_b23_s fX8_rootKey
    have ek := h4 (k - base) (by omega)
    rw [show base + (k - base) = k by omega] at ek
    rw [h1, if_neg (nI_ge hk (by omega)), (key_sp (by omega)).1, (key_sp (by omega)).2, bd_eq, bd_eq, i96, na1, ek.1, ek.2]
    by_cases e : m 3 (k - base) = nI (96 + s)
    · rw [if_pos e, lk_eq]
      obtain ⟨r, r1, r2⟩ := ih (by omega) (x3 ||| fX8_bitOf (m 4 (k - base)))
      refine ⟨r, r1, fun u hu => ?_⟩
      rw [r2 u hu, b_or, Bool.or_eq_true, bb _ (hE.2.2 0 s _ hs (Or.inr ⟨k - base, by omega, by omega, e, rfl⟩)) u hu]
      constructor
      · rintro ((h | h) | ⟨j, j1, j2, j3⟩)
        · exact Or.inl h
        · exact Or.inr ⟨k - base, by omega, by omega, e, h.symm⟩
        · exact Or.inr ⟨j, j1, by omega, j3⟩
      · rintro (h | ⟨j, j1, j2, j3, j4⟩)
        · exact Or.inl (Or.inl h)
        · by_cases e2 : j = k - base
          · subst e2
            exact Or.inl (Or.inr j4.symm)
          · exact Or.inr ⟨j, j1, by omega, j3, j4⟩
    · rw [if_neg e]
      obtain ⟨r, r1, r2⟩ := ih (by omega) x3
      refine ⟨r, r1, fun u hu => ?_⟩
      rw [r2 u hu]
      constructor
      · rintro (h | ⟨j, j1, j2, j3⟩)
        · exact Or.inl h
        · exact Or.inr ⟨j, j1, by omega, j3⟩
      · rintro (h | ⟨j, j1, j2, j3, j4⟩)
        · exact Or.inl h
        · by_cases e2 : j = k - base
          · subst e2
            exact absurd j3 e
          · exact Or.inr ⟨j, j1, by omega, j3, j4⟩
theorem gcell_sp {c m : Mm} {q base σ x rest : Nat} {g : Int32} (hC : Cv c m q base) (hE : Ev m q base) (hσ : σ ≤ 600) (hx : x < 96) (hr : rest < 64) : ∃ c' r, fX8_gatherCell c (nI x) (nI rest) (nI σ) g = some (c', r) ∧ (∀ b, b ≠ 45 → c' b = c b) ∧ AdC (fun f => ∃ v, Vs m q base σ (nI x) (m 1 x) v ∧ Pg g v f rest) c c' ∧ ∀ u, u < 12 → (bt r u = true ↔ ∃ v, Vs m q base σ (nI x) (m 1 x) v ∧ fX9_whatOf v = 1 ∧ fX9_targetOf v = nI u) := by
  unfold fX8_gatherCell
  obtain ⟨c1, r0, g1, g2, g3, g4⟩ := gcode_sp (c := c) (g := g) hr (hE.2.1 σ x _ hx (Or.inl rfl))
  have hC1 := hC.cg g2
  rw [gd_nI hx (by decide), nI_clamp (by omega), hC.2.2.2.2.1 x hx, g1, bw_eq, since_sp hC1 hσ, bd_eq]
  have key := upto (P := fun fu k => base ≤ k → ∀ x5 (cc : Mm), (∀ b, b ≠ 45 → cc b = c b) → ∃ c' r, fX8_gatherCell_b25 fu cc (nI x) (nI rest) g x5 (nI k) = some (c', r) ∧ (∀ b, b ≠ 45 → c' b = c b) ∧ AdC (fun f => ∃ j, j < q ∧ k ≤ base + j ∧ m 3 j = nI x ∧ Pg g (m 4 j) f rest) cc c' ∧ ∀ u, u < 12 → (bt r u = true ↔ (bt x5 u = true ∨ ∃ j, j < q ∧ k ≤ base + j ∧ m 3 j = nI x ∧ fX9_whatOf (m 4 j) = 1 ∧ fX9_targetOf (m 4 j) = nI u))) (base + q) hC.2.1 ?_ ?_ (base + q) (max σ base) 2000 (by omega) (by have := hC.2.1; omega) (by have := hC.2.1; omega) (by omega) r0 c1 g2
  · obtain ⟨c', r, k1, k2, k3, k4⟩ := key
    refine ⟨c', r, k1, k2, g3.tr k3 (fun f hf => ?_), fun u hu => ?_⟩
    · constructor
      · rintro ⟨v, h | ⟨j, j1, j2, j3, j4⟩, hp⟩
        · subst h; exact Or.inl hp
        · subst j4; exact Or.inr ⟨j, j1, by omega, j3, hp⟩
      · rintro (h | ⟨j, j1, j2, j3, j4⟩)
        · exact ⟨_, Or.inl rfl, h⟩
        · exact ⟨_, Or.inr ⟨j, j1, by omega, j3, rfl⟩, j4⟩
    · rw [k4 u hu, g4 u hu]
      constructor
      · rintro (h | ⟨j, j1, j2, j3, j4⟩)
        · exact ⟨_, Or.inl rfl, h⟩
        · exact ⟨_, Or.inr ⟨j, j1, by omega, j3, rfl⟩, j4⟩
      · rintro ⟨v, h | ⟨j, j1, j2, j3, j4⟩, hp⟩
        · subst h; exact Or.inl hp
        · subst j4; exact Or.inr ⟨j, j1, by omega, j3, hp⟩
  · intro fu k hk hk6 hb x5 cc hcc
    have L : fX8_gatherCell_b25 (fu + 1) cc (nI x) (nI rest) g x5 (nI k) = fX8_gatherCell_b25_s (fX8_gatherCell_b25 fu) cc (nI x) (nI rest) g x5 (nI k) := rfl
    rw [L]
    unfold fX8_gatherCell_b25_s
    rw [(hC.cg hcc).1, if_pos (nI_le hk (by omega))]
    exact ⟨cc, x5, rfl, hcc, AdC.rf rfl (fun f _ ⟨j, j1, j2, _⟩ => by omega), fun u hu => ⟨Or.inl, fun h => h.resolve_right (fun ⟨j, j1, j2, _⟩ => by omega)⟩⟩
  · intro fu k hk ih hb x5 cc hcc
    have L : fX8_gatherCell_b25 (fu + 1) cc (nI x) (nI rest) g x5 (nI k) = fX8_gatherCell_b25_s (fX8_gatherCell_b25 fu) cc (nI x) (nI rest) g x5 (nI k) := rfl
    rw [L]
    unfold fX8_gatherCell_b25_s
    obtain ⟨h1, h2, h3, h4, h5, h6⟩ := hC.cg hcc
    have ek := h4 (k - base) (by omega)
    rw [show base + (k - base) = k by omega] at ek
    rw [h1, if_neg (nI_ge hk (by omega)), (key_sp (by omega)).1, (key_sp (by omega)).2, bd_eq, bd_eq, na1, ek.1, ek.2]
    by_cases e : m 3 (k - base) = nI x
    · obtain ⟨c2, r2, y1, y2, y3, y4⟩ := gcode_sp (c := cc) (g := g) hr (hE.2.1 0 x _ hx (Or.inr ⟨k - base, by omega, by omega, e, rfl⟩))
      rw [if_pos e, y1, bw_eq, lk_eq]
      obtain ⟨c', r, z1, z2, z3, z4⟩ := ih (by omega) (x5 ||| r2) c2 (fun b hb => by rw [y2 b hb, hcc b hb])
      refine ⟨c', r, z1, z2, y3.tr z3 (fun f hf => ?_), fun u hu => ?_⟩
      · constructor
        · rintro ⟨j, j1, j2, j3, j4⟩
          by_cases e2 : j = k - base
          · subst e2; exact Or.inl j4
          · exact Or.inr ⟨j, j1, by omega, j3, j4⟩
        · rintro (h | ⟨j, j1, j2, j3⟩)
          · exact ⟨k - base, by omega, by omega, e, h⟩
          · exact ⟨j, j1, by omega, j3⟩
      · rw [z4 u hu, b_or, Bool.or_eq_true, y4 u hu]
        constructor
        · rintro ((h | h) | ⟨j, j1, j2, j3⟩)
          · exact Or.inl h
          · exact Or.inr ⟨k - base, by omega, by omega, e, h⟩
          · exact Or.inr ⟨j, j1, by omega, j3⟩
        · rintro (h | ⟨j, j1, j2, j3, j4⟩)
          · exact Or.inl (Or.inl h)
          · by_cases e2 : j = k - base
            · subst e2; exact Or.inl (Or.inr j4)
            · exact Or.inr ⟨j, j1, by omega, j3, j4⟩
    · rw [if_neg e]
      obtain ⟨c', r, z1, z2, z3, z4⟩ := ih (by omega) x5 cc hcc
      refine ⟨c', r, z1, z2, z3.cg (fun f hf => ?_), fun u hu => ?_⟩
      · constructor
        · rintro ⟨j, j1, j2, j3, j4⟩
          by_cases e2 : j = k - base
          · subst e2; exact absurd j3 e
          · exact ⟨j, j1, by omega, j3, j4⟩
        · rintro ⟨j, j1, j2, j3⟩
          exact ⟨j, j1, by omega, j3⟩
      · rw [z4 u hu]
        constructor
        · rintro (h | ⟨j, j1, j2, j3⟩)
          · exact Or.inl h
          · exact Or.inr ⟨j, j1, by omega, j3⟩
        · rintro (h | ⟨j, j1, j2, j3, j4⟩)
          · exact Or.inl h
          · by_cases e2 : j = k - base
            · subst e2; exact absurd j3 e
            · exact Or.inr ⟨j, j1, by omega, j3, j4⟩
