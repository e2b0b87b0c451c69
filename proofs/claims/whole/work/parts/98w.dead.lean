/-! PURE: a walk that is only foretold: the class leaves no marks, the reference walks and puts all back -/
def DW (l : Nat) (c m : Mm) : Prop := (∀ i, i < 96 → c 1 i = m 1 i ∧ Vc (m 1 i) ∧ Vk 4 (c 2 i) ∧ ((∃ j, j < 3 ∧ c 33 j = nI i) → m 1 (96 + i) = c 2 i ||| 1 ∧ fX9_whatOf (m 1 i) = 1) ∧ ((∀ j, j < 3 → ¬ c 33 j = nI i) → m 1 (96 + i) = c 2 i)) ∧ (∀ j, j ≤ l → j < 3 → c 33 j = -1) ∧ (∀ k, k < 6 → Vn 3 (m 1 (192 + 7 * k))) ∧ ∀ k, k < 6 → Vn 3 (m 1 (234 + 7 * k))
theorem has_read {c : Mm} {y : Int32} : ∃ r, fX6_hasRead c 32 y = some r ∧ ((r = 1 ∧ ∃ j, j < 3 ∧ c 33 j = y) ∨ (r = 0 ∧ ∀ j, j < 3 → ¬ c 33 j = y)) := by
  have e : fX6_hasRead c 32 y = (if c 33 2 = y then some 1 else if c 33 1 = y then some 1 else if c 33 0 = y then some 1 else some 0) := rfl
  rw [e]
  by_cases h2 : c 33 2 = y
  · exact ⟨1, if_pos h2, Or.inl ⟨rfl, 2, by decide, h2⟩⟩
  · rw [if_neg h2]
    by_cases h1 : c 33 1 = y
    · exact ⟨1, if_pos h1, Or.inl ⟨rfl, 1, by decide, h1⟩⟩
    · rw [if_neg h1]
      by_cases h0 : c 33 0 = y
      · exact ⟨1, if_pos h0, Or.inl ⟨rfl, 0, by decide, h0⟩⟩
      · rw [if_neg h0]
        refine ⟨0, rfl, Or.inr ⟨rfl, fun j hj => ?_⟩⟩
        rcases (show j = 0 ∨ j = 1 ∨ j = 2 by omega) with rfl | rfl | rfl
        · exact h0
        · exact h1
        · exact h2
theorem b39_dead {c : Mm} {x mk s : Nat} (hx : x < 96) (hmk : mk < 4) (h2 : c 2 x = nI mk) (hs : s = 1 ∨ s = 3) : ∃ c' δ, fX8_setMarks_b39 c 32 (nI x) 0 (nI s) = some (c', ()) ∧ ((δ = 0 ∧ ∃ j, j < 3 ∧ c 33 j = nI x) ∨ ((δ = if mk ||| s = mk then 0 else 1) ∧ ∀ j, j < 3 → ¬ c 33 j = nI x)) ∧ c' 32 8 = c 32 8 + δ ∧ (∀ i, i ≠ 8 → c' 32 i = c 32 i) ∧ ∀ b, b ≠ 32 → c' b = c b := by
  have tab : (nI s &&& (nI mk ^^^ -1)) = 0 ↔ mk ||| s = mk := by
    rcases hs with rfl | rfl
    · exact (mk1 mk hmk).2.2.1
    · exact (mk3 mk hmk).2.2.1
  obtain ⟨r, r1, r2⟩ := has_read (c := c) (y := nI x)
  unfold fX8_setMarks_b39 fX8_setMarks_b79
  rw [gd_nI hx (by decide), lk_eq, if_pos rfl, r1, bd_eq, nI_clamp (by omega), h2]
  rcases r2 with ⟨rfl, r2⟩ | ⟨rfl, r2⟩
  · rw [if_neg one_ne, if_pos rfl]
    exact ⟨c, 0, rfl, Or.inl ⟨rfl, r2⟩, (Int32.add_zero _).symm, fun i _ => rfl, fun b _ => rfl⟩
  · rw [if_pos rfl]
    by_cases h : mk ||| s = mk
    · rw [if_pos (tab.mpr h)]
      exact ⟨c, 0, rfl, Or.inr ⟨by rw [if_pos h], r2⟩, (Int32.add_zero _).symm, fun i _ => rfl, fun b _ => rfl⟩
    · rw [if_neg (fun z => h (tab.mp z)), wk_eq]
      exact ⟨_, 1, rfl, Or.inr ⟨by rw [if_neg h], r2⟩, wr_same _ _ _ _, fun i hi => wr_i _ _ _ hi, fun b hb => wr_ne _ _ _ hb⟩
theorem setm_dead {c : Mm} {x mk : Nat} (hx : x < 96) (hmk : mk < 4) (h2 : c 2 x = nI mk) : ∃ c' δ, fX8_setMarks c 32 (nI x) 0 = some (c', ()) ∧ ((δ = 0 ∧ ∃ j, j < 3 ∧ c 33 j = nI x) ∨ ((δ = if mk ||| sOf (fX9_whatOf (c 1 x)) (c 32 2) = mk then 0 else 1) ∧ ∀ j, j < 3 → ¬ c 33 j = nI x)) ∧ c' 32 8 = c 32 8 + δ ∧ (∀ i, i ≠ 8 → c' 32 i = c 32 i) ∧ ∀ b, b ≠ 32 → c' b = c b := by
  unfold fX8_setMarks fX8_setMarks_b27 sOf
  rw [gd_nI hx (by decide), nI_clamp (by omega), kind_eq]
  by_cases h : fX9_whatOf (c 1 x) = 2
  · rw [if_pos h, if_pos h]
    by_cases h3 : c 32 2 &&& 1 = 0
    · rw [if_pos h3, if_pos h3, if_pos rfl]
      exact b39_dead hx hmk h2 (Or.inl rfl)
    · rw [if_neg h3, if_neg h3, if_neg one_ne]
      exact b39_dead hx hmk h2 (Or.inr rfl)
  · rw [if_neg h, if_neg h, if_pos rfl]
    exact b39_dead hx hmk h2 (Or.inl rfl)
theorem or1 : ∀ mk, mk < 4 → ((mk ||| 1) ||| 1 = mk ||| 1) ∧ nI mk ||| 1 = nI (mk ||| 1) ∧ mk ||| 1 < 4 := by decide +kernel
/-- the end of an entry without a fault -/
theorem dead_end {a l x tg r mk s : Nat} {c m : Mm} {code : Int32} (ha : a < 512) (hl : l < 3) (hx : x < 96) (htg : tg < 3) (hr : r < 8) (hD : ∀ k, k < 6 → Vn 3 (m 1 (192 + 7 * k))) (hD2 : ∀ k, k < 6 → Vn 3 (m 1 (234 + 7 * k))) (vc : Vc code) (hk0 : ¬ fX9_whatOf code = 0) (hk1 : fX9_whatOf code = 1 → 0 < l) (h1 : c 32 1 = nI a) (h5 : c 32 5 = nI l) (h2 : m 1 (96 + x) = nI (mk ||| s)) (hm4 : mk ||| s < 4) (m11 : m 0 11 = nI l) (m13 : m 0 13 = nI r) (m16 : m 0 16 = 0) : ∃ c' m' res, fX8_readEntry_b95 c 32 0 (nI x) code (nI r) = some (c', ()) ∧ fX9_reads_b211 m (nI tg) (nI a) (nI x) code (fX9_whatOf code) 1 = some (m', res) ∧ (∀ b, b ≠ 32 → b ≠ 33 → c' b = c b) ∧ c' 33 l = nI x ∧ (∀ j, j ≠ l → c' 33 j = c 33 j) ∧ FrM m m' ∧ (∀ i, i < 96 → m' 1 (96 + i) = m 1 (96 + i)) ∧ (∀ i, 1 ≤ i → i ≤ 4 → c' 32 i = c 32 i) ∧ c' 32 8 = c 32 8 ∧ m' 0 14 = m 0 14 ∧ Out 32 l c' m' res ∧ (res = 1 → fX9_whatOf code = 1 ∧ (∀ k, k < 6 → Vn 3 (m' 1 (192 + 7 * k))) ∧ ∀ k, k < 6 → Vn 3 (m' 1 (234 + 7 * k))) := by
  unfold fX8_readEntry_b95
  rw [if_pos rfl]
  rcases vc.parts with ⟨k0, -⟩ | ⟨k1, ⟨u, hu, et⟩, -⟩ | ⟨k2, ⟨u, hu, et⟩, ro, hro, er⟩
  · exact absurd k0 hk0
  · have l0 := hk1 k1
    have nk : ¬ fX9_whatOf code = 2 := by rw [k1]; decide
    have el : nI l - 1 = nI (l - 1) := pk_sub (b := 1) l0
    have e1 : fX8_readEntry_b118 c 32 (nI x) code (nI r) = some (wr (wr (wr (wr (wr c 33 l (nI x)) 32 0 1) 32 5 (nI (l - 1))) 32 6 (nI u)) 32 7 (nI r), ()) := by
      unfold fX8_readEntry_b118 fX6_leadOn
      rw [h5, gd_nI hl (by decide), wk_eq, nI_clamp (by omega), kind_eq, if_neg nk, wk_eq, wk_eq, wk_eq, wk_eq, bw_eq, wr_b _ _ _ _ (by decide), h5, targ_eq, et, el]
    obtain ⟨m3, k, hk6, t2, t3⟩ := comes_any (m := m) (a := 234) (l := l) (ad := a) (tg := nI tg) (to := nI u) (ri := nI r) (di := nI 0) (by decide) hl ha hD2
    have mz0 := t3.2.2.2.2.2.2.2.2.2 0 (by decide)
    have e2 : fX9_reads_b211 m (nI tg) (nI a) (nI x) code (fX9_whatOf code) 1 = some (wr (wr m3 0 12 (nI u)) 0 11 (nI (l - 1)), 1) := by
      unfold fX9_reads_b211 fX9_reads_b247
      rw [k1, if_pos rfl, if_neg one_ne, m11, m13, et, show (234 : Int32) = nI 234 from rfl, show (0 : Int32) = nI 0 from rfl, t2, bw_eq, wk_eq, wk_eq, wr_i _ _ _ (by decide), mz0, m11, el]
    have F0 := putM_fr hk6 (Or.inr rfl) t3
    have F1 : FrM m3 (wr (wr m3 0 12 (nI u)) 0 11 (nI (l - 1))) := ⟨fun i _ => by simp (disch := omega) only [wr_same, wr_i, wr_b], fun i _ _ => by simp (disch := omega) only [wr_same, wr_i, wr_b], fun b hb => by rw [wr_ne _ _ _ (by omega), wr_ne _ _ _ (by omega)], fun i hi => by simp (disch := omega) only [wr_same, wr_i, wr_b]⟩
    refine ⟨_, _, 1, e1, e2, fun b b1 b2 => by rw [wr_ne _ _ _ b1, wr_ne _ _ _ b1, wr_ne _ _ _ b1, wr_ne _ _ _ b1, wr_ne _ _ _ b2], by simp (disch := omega) only [wr_same, wr_i, wr_b], fun j hj => by simp (disch := omega) only [wr_same, wr_i, wr_b], F0.tr F1, fun i hi => ?_, fun i i1 i2 => by simp (disch := omega) only [wr_same, wr_i, wr_b], by simp (disch := omega) only [wr_same, wr_i, wr_b], by simp (disch := omega) only [wr_same, wr_i, wr_b]; rw [mz0], Or.inl ⟨rfl, l0, by simp (disch := omega) only [wr_same, wr_i, wr_b], by simp (disch := omega) only [wr_same, wr_i, wr_b]; rw [mz0]; exact m16, u, r, hu, hr, by simp (disch := omega) only [wr_same, wr_i, wr_b], by simp (disch := omega) only [wr_same, wr_i, wr_b], by simp (disch := omega) only [wr_same, wr_i, wr_b], by simp (disch := omega) only [wr_same, wr_i, wr_b], by simp (disch := omega) only [wr_same, wr_i, wr_b], by simp (disch := omega) only [wr_same, wr_i, wr_b]; rw [mz0]; exact m13⟩, fun _ => ⟨k1, fun j hj => ?_, fun j hj => ?_⟩⟩
    · simp (disch := omega) only [wr_same, wr_i, wr_b]
      exact t3.2.2.2.2.2.2.2.2.1 _ (by omega) (by omega)
    · simp (disch := omega) only [wr_same, wr_i, wr_b]
      rw [t3.2.2.2.2.2.2.2.2.1 _ (by omega) (by omega)]
      exact hD j hj
    · simp (disch := omega) only [wr_same, wr_i, wr_b]
      by_cases e : j = k
      · subst e
        rw [t3.2.1]
        exact Or.inr ⟨tg, htg, rfl⟩
      · rw [t3.2.2.2.2.2.2.2.2.1 _ (by omega) (by omega)]
        exact hD2 j hj
  · have e1 : fX8_readEntry_b118 c 32 (nI x) code (nI r) = some (wr (wr (wr c 33 l (nI x)) 32 0 2) 32 9 (nI (u + a % 8 ^ l)), ()) := by
      unfold fX8_readEntry_b118 fX6_finish
      rw [h5, gd_nI hl (by decide), wk_eq, nI_clamp (by omega), kind_eq, if_pos k2, wk_eq, wk_eq, bw_eq, wr_b _ _ _ _ (by decide), wr_b _ _ _ _ (by decide), h1, h5, targ_eq, et, rest_eq l hl a ha, nI_add]
    obtain ⟨m3, k, hk6, t2, t3⟩ := comes_any (m := m) (a := 192) (l := l) (ad := a) (tg := nI tg) (to := nI u) (ri := nI (r ||| (ro &&& 8))) (di := nI ((mk ||| s) / 2)) (by decide) hl ha hD
    have mz0 := t3.2.2.2.2.2.2.2.2.2 0 (by decide)
    have hrs : a % 8 ^ l < 64 := by
      obtain ⟨-, -, p, q⟩ := wid_eq l hl
      exact Nat.lt_of_lt_of_le (Nat.mod_lt _ p) q
    have e2 : fX9_reads_b211 m (nI tg) (nI a) (nI x) code (fX9_whatOf code) 1 = some (wr m3 0 15 (nI (u + a % 8 ^ l)), 0) := by
      unfold fX9_reads_b211 fX9_reads_b318
      rw [k2, if_neg (show ¬ (2 : Int32) = 1 by decide), if_neg one_ne, i96, gd_nI (by omega) (by decide), nI_clamp (by omega), h2, (mkD _ hm4).1, m11, m13, et, er, show (8 : Int32) = nI 8 from rfl, fa_and, fa_or, show (192 : Int32) = nI 192 from rfl, t2, bw_eq, mz0, m11, nz_wide hl, remw hl ha, nI_add, wk_eq]
    have F0 := putM_fr hk6 (Or.inl rfl) t3
    have F1 : FrM m3 (wr m3 0 15 (nI (u + a % 8 ^ l))) := ⟨fun i _ => by simp (disch := omega) only [wr_same, wr_i, wr_b], fun i _ _ => by simp (disch := omega) only [wr_same, wr_i, wr_b], fun b hb => wr_ne _ _ _ (by omega), fun i hi => by simp (disch := omega) only [wr_same, wr_i, wr_b]⟩
    refine ⟨_, _, 0, e1, e2, fun b b1 b2 => by rw [wr_ne _ _ _ b1, wr_ne _ _ _ b1, wr_ne _ _ _ b2], by simp (disch := omega) only [wr_same, wr_i, wr_b], fun j hj => by simp (disch := omega) only [wr_same, wr_i, wr_b], F0.tr F1, fun i hi => ?_, fun i i1 i2 => by simp (disch := omega) only [wr_same, wr_i, wr_b], by simp (disch := omega) only [wr_same, wr_i, wr_b], by simp (disch := omega) only [wr_same, wr_i, wr_b]; rw [mz0], Or.inr (Or.inl ⟨rfl, by simp (disch := omega) only [wr_same, wr_i, wr_b], by simp (disch := omega) only [wr_same, wr_i, wr_b]; rw [mz0]; exact m16, by simp (disch := omega) only [wr_same, wr_i, wr_b], by simp (disch := omega) only [wr_same, wr_i, wr_b]; exact ⟨_, by omega, rfl⟩⟩), fun h => absurd h (by decide)⟩
    simp (disch := omega) only [wr_same, wr_i, wr_b]
    exact t3.2.2.2.2.2.2.2.2.1 _ (by omega) (by omega)
theorem dead_step {a wa tg l t r : Nat} {c m : Mm} (hD : DW l c m) (hW : WS 32 a wa 0 tg l t r c m) : ∃ c' m' res, fX8_readEntry c 32 0 = some (c', ()) ∧ fX9_reads m (nI tg) (nI a) (nI wa) (nI 0) = some (m', res) ∧ (∃ d, c' 32 8 = c 32 8 + d ∧ m' 0 14 = m 0 14 + d) ∧ (∀ b, b ≠ 32 → b ≠ 33 → c' b = c b) ∧ FrM m m' ∧ (∀ i, 1 ≤ i → i ≤ 4 → c' 32 i = c 32 i) ∧ Out 32 l c' m' res ∧ (res = 1 → DW (l - 1) c' m') := by
  obtain ⟨h0, h1, h2, h3, h4, h5, h6, h7, m11, m12, m13, m16, ha, hwa, hg, htg, hl, ht, hr⟩ := hW
  obtain ⟨D1, D2, D3, D4⟩ := hD
  have hx : cAt t a l < 96 := cAt_lt ht
  obtain ⟨x, ex⟩ : ∃ x, cAt t a l = x := ⟨_, rfl⟩
  have ecl := cell_at (t := t) hl ha
  have epl := place_at (t := t) hl ha
  rw [ex] at hx ecl epl
  obtain ⟨gc1, vc, ⟨mk, hmk, gc2⟩, rd1, rd0⟩ := D1 x hx
  obtain ⟨code, eco⟩ : ∃ code, m 1 x = code := ⟨_, rfl⟩
  rw [eco] at gc1 vc rd1
  obtain ⟨ro, hro, er⟩ : ∃ ro, ro < 16 ∧ fX9_rightsOf code = nI ro := by
    rcases vc.parts with ⟨-, -, h⟩ | ⟨-, -, h⟩ | ⟨-, -, h⟩
    · exact ⟨0, by decide, h⟩
    · exact h
    · exact h
  have hrr : r &&& ro < 8 := Nat.lt_of_le_of_lt Nat.and_le_left hr
  unfold fX8_readEntry fX9_reads
  rw [h6, h1, h5, ecl, lk_eq, gd_nI hx (by decide), nI_clamp (by omega), gc1, lk_eq, h7, right_eq, er, fa_and, lk_eq, wk_eq, lk_eq]
  rw [m12, m11, epl, bd_eq, i0, gd_nI (by omega) (by decide), nI_clamp (by omega), eco, lk_eq, lk_eq, wk_eq]
  rw [wr_i _ _ _ (show (5 : Nat) ≠ 8 by decide), wr_i _ _ _ (show (2 : Nat) ≠ 8 by decide), wr_i _ _ _ (show (3 : Nat) ≠ 8 by decide), wr_i _ _ _ (show (11 : Nat) ≠ 14 by decide), h5, h2, h3, m11]
  have flt : ∀ (f : Int32) (m' : Mm), (f = 2 ∨ f = 3 ∨ f = 4) → (∀ b, b ≠ 0 → m' b = m b) → (∀ i, i < 11 ∨ 17 ≤ i → m' 0 i = m 0 i) → m' 0 14 = m 0 14 + 1 → m' 0 16 = f → ∃ c' m'' res, some (wr (wr (wr c 32 8 (c 32 8 + 1)) 32 0 3) 32 9 f, ()) = some (c', ()) ∧ some (m', (0 : Int32)) = some (m'', res) ∧ (∃ d, c' 32 8 = c 32 8 + d ∧ m'' 0 14 = m 0 14 + d) ∧ (∀ b, b ≠ 32 → b ≠ 33 → c' b = c b) ∧ FrM m m'' ∧ (∀ i, 1 ≤ i → i ≤ 4 → c' 32 i = c 32 i) ∧ Out 32 l c' m'' res ∧ (res = 1 → DW (l - 1) c' m'') := by
    intro f m' hf g1 g2 g3 g4
    refine ⟨_, m', 0, rfl, rfl, ⟨1, by simp (disch := omega) only [wr_same, wr_i, wr_b], g3⟩, fun b b1 b2 => by rw [wr_ne _ _ _ b1, wr_ne _ _ _ b1, wr_ne _ _ _ b1], ⟨fun i _ => by rw [g1 1 (by decide)], fun i _ _ => by rw [g1 1 (by decide)], fun b hb => g1 b (by omega), g2⟩, fun i i1 i2 => by simp (disch := omega) only [wr_same, wr_i, wr_b], Or.inr (Or.inr ⟨rfl, by simp (disch := omega) only [wr_same, wr_i, wr_b], by rw [g4]; exact hf, by rw [g4]; simp (disch := omega) only [wr_same, wr_i, wr_b]⟩), fun h => absurd h (by decide)⟩
  unfold fX8_faultOf
  rw [kind_eq]
  by_cases k0 : fX9_whatOf code = 0
  · rw [if_pos k0, if_neg (show ¬ (2 : Int32) = 0 by decide), if_pos k0]
    unfold fX9_reads_b60 fX6_fail
    rw [if_pos k0, wk_eq, wk_eq, wk_eq, bw_eq]
    exact flt 2 _ (Or.inl rfl) (fun b hb => by rw [wr_ne _ _ _ hb, wr_ne _ _ _ hb]) (fun i hi => by simp (disch := omega) only [wr_same, wr_i, wr_b]) (by simp (disch := omega) only [wr_same, wr_i, wr_b]) (by simp (disch := omega) only [wr_same, wr_i, wr_b])
  rw [if_neg k0, if_neg k0]
  by_cases k10 : fX9_whatOf code = 1 ∧ nI l = 0
  · rw [if_pos k10.1, if_pos k10.2, if_neg (show ¬ (3 : Int32) = 0 by decide), if_pos k10.1, if_pos k10.2]
    unfold fX9_reads_b60 fX6_fail
    rw [if_neg k0, wk_eq, wk_eq, wk_eq, bw_eq]
    exact flt 3 _ (Or.inr (Or.inl rfl)) (fun b hb => by rw [wr_ne _ _ _ hb, wr_ne _ _ _ hb]) (fun i hi => by simp (disch := omega) only [wr_same, wr_i, wr_b]) (by simp (disch := omega) only [wr_same, wr_i, wr_b]) (by simp (disch := omega) only [wr_same, wr_i, wr_b])
  have e1 : (if fX9_whatOf code = 1 then if nI l = 0 then (3 : Int32) else if nI wa &&& (nI (r &&& ro) ^^^ -1) = 0 then 0 else 4 else if nI wa &&& (nI (r &&& ro) ^^^ -1) = 0 then 0 else 4) = if nI wa &&& (nI (r &&& ro) ^^^ -1) = 0 then 0 else 4 := by
    by_cases h : fX9_whatOf code = 1
    · rw [if_pos h, if_neg (fun z => k10 ⟨h, z⟩)]
    · rw [if_neg h]
  have e2 : ∀ (P Q : Option (Mm × Int32)), (if fX9_whatOf code = 1 then if nI l = 0 then P else Q else Q) = Q := fun P Q => by
    by_cases h : fX9_whatOf code = 1
    · rw [if_pos h, if_neg (fun z => k10 ⟨h, z⟩)]
    · rw [if_neg h]
  have hk1 : fX9_whatOf code = 1 → 0 < l := fun h => by
    rcases Nat.eq_zero_or_pos l with z | z
    · exact absurd ⟨h, by rw [z]; rfl⟩ k10
    · exact z
  rw [e1, e2]
  unfold fX9_reads_b76
  rw [wk_eq, wr_i _ _ _ (show (13 : Nat) ≠ 14 by decide), m13, er, fa_and, wr_same]
  by_cases kl : ¬ nI wa &&& (nI (r &&& ro) ^^^ -1) = 0
  · rw [if_neg kl, if_neg (show ¬ (4 : Int32) = 0 by decide), if_neg kl, wk_eq]
    unfold fX6_fail
    rw [wk_eq, wk_eq, bw_eq]
    exact flt 4 _ (Or.inr (Or.inr rfl)) (fun b hb => by rw [wr_ne _ _ _ hb, wr_ne _ _ _ hb, wr_ne _ _ _ hb]) (fun i hi => by simp (disch := omega) only [wr_same, wr_i, wr_b]) (by simp (disch := omega) only [wr_same, wr_i, wr_b]) (by simp (disch := omega) only [wr_same, wr_i, wr_b])
  have kl := Decidable.not_not.mp kl
  rw [if_pos kl, if_pos rfl, if_pos kl, show (nI 0 : Int32) = 0 from rfl, if_pos rfl, if_pos rfl]
  have m1b : ∀ i, wr (wr m 0 14 (m 0 14 + 1)) 0 13 (nI (r &&& ro)) 1 i = m 1 i := fun i => by simp (disch := omega) only [wr_same, wr_i, wr_b]
  obtain ⟨c2, δ, s1, s2, s4, s5, s6⟩ := setm_dead (c := wr c 32 8 (c 32 8 + 1)) (x := x) (mk := mk) hx hmk (by rw [wr_b _ _ _ _ (by decide)]; exact gc2)
  rw [wr_b _ _ _ _ (show (1 : Nat) ≠ 32 by decide), gc1, wr_i _ _ _ (show (2 : Nat) ≠ 8 by decide), h2, wr_ne _ _ _ (show (33 : Nat) ≠ 32 by decide)] at s2
  have hs2 := sOf_c (fX9_whatOf code) (nI wa)
  have s1of : fX9_whatOf code = 1 → sOf (fX9_whatOf code) (nI wa) = 1 := fun h => by
    unfold sOf
    rw [if_neg (by rw [h]; decide)]
  obtain ⟨s, hs⟩ : ∃ s, sOf (fX9_whatOf code) (nI wa) = s := ⟨_, rfl⟩
  rw [hs] at s2 hs2 s1of
  -- the reference's marks
  obtain ⟨km, hkm, ekm, eδ, hk2⟩ : ∃ km, km < 4 ∧ m 1 (96 + x) = nI km ∧ δ = (if km ||| s = km then 0 else 1) ∧ (fX9_whatOf code = 1 → nI (km ||| s) = c 2 x ||| 1) := by
    rcases s2 with ⟨d0, rdj⟩ | ⟨d0, nrd⟩
    · obtain ⟨y1, y2⟩ := rd1 rdj
      have es := s1of y2
      obtain ⟨o1, o2, o3⟩ := or1 mk hmk
      refine ⟨mk ||| 1, o3, by rw [y1, gc2, o2], ?_, fun _ => by rw [es, o1, gc2, o2]⟩
      rw [es, o1, if_pos rfl, d0]
    · refine ⟨mk, hmk, by rw [rd0 nrd, gc2], d0, fun h => ?_⟩
      rw [s1of h, gc2, (or1 mk hmk).2.1]
  have hm4 : km ||| s < 4 := by
    rcases hs2 with rfl | rfl
    · exact (mk1 km hkm).2.2.2.2.1
    · exact (mk3 km hkm).2.2.2.2.1
  rw [s1, bw_eq, setm_ref (wa := nI wa) hx hkm (by rw [m1b]; exact ekm), hs, ← eδ]
  obtain ⟨m2, em2⟩ : ∃ m2, wr (wr (wr (wr m 0 14 (m 0 14 + 1)) 0 13 (nI (r &&& ro))) 0 14 (wr (wr m 0 14 (m 0 14 + 1)) 0 13 (nI (r &&& ro)) 0 14 + δ)) 1 (96 + x) (nI (km ||| s)) = m2 := ⟨_, rfl⟩
  rw [em2]
  have a1 : ∀ i, i ≠ 96 + x → m2 1 i = m 1 i := fun i hi => by rw [← em2]; simp (disch := omega) only [wr_same, wr_i, wr_b]
  have a2 : m2 1 (96 + x) = nI (km ||| s) := by rw [← em2]; simp (disch := omega) only [wr_same, wr_i, wr_b]
  have a3 : m2 0 14 = m 0 14 + 1 + δ := by rw [← em2]; simp (disch := omega) only [wr_same, wr_i, wr_b]
  have a4 : m2 0 13 = nI (r &&& ro) := by rw [← em2]; simp (disch := omega) only [wr_same, wr_i, wr_b]
  have a5 : ∀ i, i ≠ 13 → i ≠ 14 → m2 0 i = m 0 i := fun i h1 h2 => by rw [← em2]; simp (disch := omega) only [wr_same, wr_i, wr_b]
  have a6 : ∀ b, 2 ≤ b → m2 b = m b := fun b hb => by
    rw [← em2, wr_ne _ _ _ (by omega), wr_ne _ _ _ (by omega), wr_ne _ _ _ (by omega), wr_ne _ _ _ (by omega)]
  have cb : ∀ b, b ≠ 32 → c2 b = c b := fun b h2 => by rw [s6 b h2, wr_ne _ _ _ h2]
  have cw : ∀ i, i ≠ 8 → c2 32 i = c 32 i := fun i hi => by rw [s5 i hi, wr_i _ _ _ hi]
  obtain ⟨c', m', res, z1, z2, z3, z4, z5, z6, z7, z8, z9, z10, z11, z12⟩ := dead_end (a := a) (l := l) (x := x) (tg := tg) (r := r &&& ro) (mk := km) (s := s) (c := c2) (m := m2) (code := code) ha hl hx htg hrr (fun k hk => by rw [a1 _ (by omega)]; exact D3 k hk) (fun k hk => by rw [a1 _ (by omega)]; exact D4 k hk) vc k0 hk1 (by rw [cw 1 (by decide)]; exact h1) (by rw [cw 5 (by decide)]; exact h5) a2 hm4 (by rw [a5 11 (by decide) (by decide)]; exact m11) a4 (by rw [a5 16 (by decide) (by decide)]; exact m16)
  refine ⟨c', m', res, z1, z2, ⟨1 + δ, ?_, ?_⟩, fun b b1 b2 => by rw [z3 b b1 b2, cb b b1], ?_, fun i i1 i2 => by rw [z8 i i1 i2, cw i (by omega)], z11, fun h => ?_⟩
  · rw [z9, s4, wr_same]
    exact Int32.add_assoc _ _ _
  · rw [z10, a3]
    exact Int32.add_assoc _ _ _
  · exact FrM.tr ⟨fun i hi => a1 i (by omega), fun i h1 h2 => a1 i (by omega), a6, fun i hi => a5 i (by omega) (by omega)⟩ z6
  · obtain ⟨w1, w2, w3⟩ := z12 h
    have l0 := hk1 w1
    have j33 : ∀ j, j ≠ l → c' 33 j = c 33 j := fun j hj => by rw [z5 j hj, cb 33 (by decide)]
    refine ⟨fun i hi => ?_, fun j hj hj3 => by rw [j33 j (by omega)]; exact D2 j (by omega) hj3, w2, w3⟩
    obtain ⟨i1, i2, i3, i4, i5⟩ := D1 i hi
    rw [z3 1 (by decide) (by decide), cb 1 (by decide), z3 2 (by decide) (by decide), cb 2 (by decide), z6.1 i hi, a1 i (by omega), z7 i hi]
    refine ⟨i1, i2, i3, fun ⟨j, hj, ej⟩ => ?_, fun hn => ?_⟩
    · by_cases e : i = x
      · subst e
        rw [a2, eco]
        exact ⟨hk2 w1, w1⟩
      · rw [a1 _ (by omega)]
        by_cases e2 : j = l
        · subst e2
          rw [z4] at ej
          exact absurd (nI_inj (by omega) (by omega) ej).symm e
        · rw [j33 j e2] at ej
          exact i4 ⟨j, hj, ej⟩
    · have e : i ≠ x := fun e => by
        subst e
        exact hn l hl z4
      rw [a1 _ (by omega)]
      refine i5 (fun j hj ej => ?_)
      by_cases e2 : j = l
      · subst e2
        rw [D2 j (Nat.le_refl _) hj, m1n (by omega)] at ej
        exact ej
      · exact hn j hj (by rw [j33 j e2]; exact ej)
theorem dead_fin {a wa tg : Nat} : ∀ l i fu fu2 t r (c m : Mm), DW l c m → WS 32 a wa 0 tg l t r c m → i + l < 3 → l + 1 < fu → l + 1 < fu2 → ∃ c' m', fX8_finishWalk_b2 fu c 32 0 (nI i) = some (c', ()) ∧ fX9_asks_b154 fu2 m (nI a) (nI wa) (nI tg) 1 = fX9_asks_b154_s (fun _ _ _ _ _ => none) m' (nI a) (nI wa) (nI tg) 0 ∧ (∀ b, b ≠ 32 → b ≠ 33 → c' b = c b) ∧ FrM m m' ∧ (∃ d, c' 32 8 = c 32 8 + d ∧ m' 0 14 = m 0 14 + d) ∧ Done 32 c' m' := by
  intro l
  induction l with
  | zero =>
    intro i fu fu2 t r c m hD hW hi hf hf2
    obtain ⟨f, rfl⟩ : ∃ f, fu = f + 1 + 1 := ⟨fu - 2, by omega⟩
    obtain ⟨f2, rfl⟩ : ∃ f2, fu2 = f2 + 1 + 1 := ⟨fu2 - 2, by omega⟩
    obtain ⟨c1, m1, res, r1, r2, r3, z1, z2, z3, z5, -⟩ := dead_step hD hW
    have L : fX8_finishWalk_b2 (f + 1 + 1) c 32 0 (nI i) = fX8_finishWalk_b2_s (fX8_finishWalk_b2 (f + 1)) c 32 0 (nI i) := rfl
    have L2 : fX9_asks_b154 (f2 + 1 + 1) m (nI a) (nI wa) (nI tg) 1 = fX9_asks_b154_s (fX9_asks_b154 (f2 + 1)) m (nI a) (nI wa) (nI tg) 1 := rfl
    rw [L, L2]
    unfold fX8_finishWalk_b2_s
    have e : fX9_asks_b154_s (fX9_asks_b154 (f2 + 1)) m (nI a) (nI wa) (nI tg) 1 = fX9_asks_b154 (f2 + 1) m1 (nI a) (nI wa) (nI tg) res := by
      unfold fX9_asks_b154_s
      rw [if_neg one_ne, show (0 : Int32) = nI 0 from rfl, r2, bw_eq]
    rw [if_neg (show ¬ (3 : Int32) ≤ nI i from nI_ge (b := 3) (by omega) (by decide)), if_pos hW.1, r1, bw_eq, na1, e]
    rcases z5 with ⟨-, h, -⟩ | ⟨rfl, h1, h2, h3, h4⟩ | ⟨rfl, h1, h2, h3⟩
    · exact absurd h (Nat.lt_irrefl 0)
    · rw [fw_end (by omega) (by rw [h1]; decide), as_end]
      exact ⟨_, _, rfl, rfl, z1, z2, r3, Or.inl ⟨h1, h2, h3, h4⟩⟩
    · rw [fw_end (by omega) (by rw [h1]; decide), as_end]
      exact ⟨_, _, rfl, rfl, z1, z2, r3, Or.inr ⟨h1, Or.inr h2, h3⟩⟩
  | succ l ih =>
    intro i fu fu2 t r c m hD hW hi hf hf2
    obtain ⟨f, rfl⟩ : ∃ f, fu = f + 1 + 1 := ⟨fu - 2, by omega⟩
    obtain ⟨f2, rfl⟩ : ∃ f2, fu2 = f2 + 1 + 1 := ⟨fu2 - 2, by omega⟩
    obtain ⟨c1, m1, res, r1, r2, ⟨d, d1, d2⟩, z1, z2, z4, z5, z6⟩ := dead_step hD hW
    have L : fX8_finishWalk_b2 (f + 1 + 1) c 32 0 (nI i) = fX8_finishWalk_b2_s (fX8_finishWalk_b2 (f + 1)) c 32 0 (nI i) := rfl
    have L2 : fX9_asks_b154 (f2 + 1 + 1) m (nI a) (nI wa) (nI tg) 1 = fX9_asks_b154_s (fX9_asks_b154 (f2 + 1)) m (nI a) (nI wa) (nI tg) 1 := rfl
    rw [L, L2]
    unfold fX8_finishWalk_b2_s
    have e : fX9_asks_b154_s (fX9_asks_b154 (f2 + 1)) m (nI a) (nI wa) (nI tg) 1 = fX9_asks_b154 (f2 + 1) m1 (nI a) (nI wa) (nI tg) res := by
      unfold fX9_asks_b154_s
      rw [if_neg one_ne, show (0 : Int32) = nI 0 from rfl, r2, bw_eq]
    rw [if_neg (show ¬ (3 : Int32) ≤ nI i from nI_ge (b := 3) (by omega) (by decide)), if_pos hW.1, r1, bw_eq, na1, e]
    rcases z5 with ⟨rfl, -, h1, h2, t', r', ht', hr', h3, h4, h5, h6, h7, h8⟩ | ⟨rfl, h1, h2, h3, h4⟩ | ⟨rfl, h1, h2, h3⟩
    · obtain ⟨-, w1, w2, w3, w4, -, -, -, -, -, -, -, ha, hwa, hg, htg, hl, -, -⟩ := hW
      obtain ⟨c2, m2, y1, y2, y4, y5, ⟨d', y6, y7⟩, y8⟩ := ih (i + 1) (f + 1) (f2 + 1) t' r' c1 m1 (z6 rfl) ⟨h1, by rw [z4 1 (by decide) (by decide)]; exact w1, by rw [z4 2 (by decide) (by decide)]; exact w2, by rw [z4 3 (by decide) (by decide)]; exact w3, by rw [z4 4 (by decide) (by decide)]; exact w4, h3, h5, h7, h4, h6, h8, h2, ha, hwa, hg, htg, by omega, ht', hr'⟩ (by omega) (by omega) (by omega)
      rw [y1, y2]
      refine ⟨c2, m2, rfl, rfl, fun b b1 b2 => (y4 b b1 b2).trans (z1 b b1 b2), z2.tr y5, ⟨d + d', ?_, ?_⟩, y8⟩
      · rw [y6, d1]; exact Int32.add_assoc _ _ _
      · rw [y7, d2]; exact Int32.add_assoc _ _ _
    · rw [fw_end (by omega) (by rw [h1]; decide), as_end]
      exact ⟨_, _, rfl, rfl, z1, z2, ⟨d, d1, d2⟩, Or.inl ⟨h1, h2, h3, h4⟩⟩
    · rw [fw_end (by omega) (by rw [h1]; decide), as_end]
      exact ⟨_, _, rfl, rfl, z1, z2, ⟨d, d1, d2⟩, Or.inr ⟨h1, Or.inr h2, h3⟩⟩
