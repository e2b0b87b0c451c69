/-! PURE: placeWalk, startWalk, begin -/
/-- what placeWalk leaves in the walk -/
def PW (w a wa g tg : Nat) (c c1 : Mm) : Prop := (∀ b, b ≠ w → b ≠ w + 1 → c1 b = c b) ∧ c1 w 1 = nI a ∧ c1 w 2 = nI wa ∧ c1 w 3 = nI g ∧ c1 w 4 = nI tg ∧ c1 w 8 = 0 ∧ ∀ j, j < 3 → c1 (w + 1) j = -1
theorem place_both {B w a wa g tg s : Nat} {c m : Mm} (hS : RS c m) (h : RPB B 17 15 234 c m) (hv : RPv c m) (hw : 24 ≤ w ∧ w ≤ 32) (ha : a < 512) (hg : g < 2) (htg : tg < 3) (hs : s < 6) (hcur : m 1 344 = nI s) (ht : m 1 (332 + s) = nI tg) : ∃ c1, PW w a wa g tg c c1 ∧
    ((∃ k l t r, k < 6 ∧ c (17 + k) 0 = 1 ∧ l < 2 ∧ t < 12 ∧ r < 8 ∧ fX8_placeWalk c w (nI a) (nI wa) (nI g) = some (c1, some (17 + k)) ∧ fX9_begins m (nI tg) (nI a) = some (bM m k l t r, ()) ∧ c1 w 0 = 1 ∧ c1 w 5 = nI l ∧ c1 w 6 = nI t ∧ c1 w 7 = nI r) ∨
     (∃ t, t < 12 ∧ fX8_placeWalk c w (nI a) (nI wa) (nI g) = some (c1, none) ∧ fX9_begins m (nI tg) (nI a) = some (nM m (nI t) 0, ()) ∧ c1 w 0 = 1 ∧ c1 w 5 = nI 2 ∧ c1 w 6 = nI t ∧ c1 w 7 = nI 7) ∨
     (fX8_placeWalk c w (nI a) (nI wa) (nI g) = some (c1, none) ∧ fX9_begins m (nI tg) (nI a) = some (nM m (-1) 1, ()) ∧ c1 w 0 = 3 ∧ c1 w 9 = 1)) := by
  obtain ⟨S1, S2, S3, S4, S5⟩ := hS
  have c34 : c 3 4 = nI s := S2.trans hcur
  have c5 : c 5 s = nI tg := (S1 s hs).2.1.trans ht
  have tn : fX4_tagNow c = some (nI tg) := by
    unfold fX4_tagNow
    rw [c34, if_neg (by rw [m1ne (by omega)]; exact id), gd_nI hs (by decide), nI_clamp (by omega), c5]
  obtain ⟨c3, z0, z1, z2, z3, z4, z8, z9, zo⟩ := reset_sp (c := c) (w := w) (a := a) (wa := wa) (g := g) (tg := tg) hg
  have rn : fX4_rootNow c3 = some (m 1 (326 + s)) := by
    unfold fX4_rootNow
    rw [zo 3 (by omega) (by omega), zo 4 (by omega) (by omega), c34, if_neg (by rw [m1ne (by omega)]; exact id), gd_nI hs (by decide), nI_clamp (by omega), (S1 s hs).1]
  have h3 : RPB B 17 15 234 c3 m := by
    obtain ⟨x, y, kc, km, r1, r2, r3, r4, r5, r6, r7⟩ := h
    refine ⟨x, y, kc, km, by rw [zo 15 (by omega) (by omega)]; exact r1, r2, r3, r4, fun k hk => ?_, fun j k hj hk => ?_, fun j k hj hk => ?_⟩
    · have := r5 k hk
      unfold RPf at this ⊢
      rw [zo (17 + k) (by omega) (by omega)]
      exact this
    · rw [zo (17 + k) (by omega) (by omega), zo (17 + j) (by omega) (by omega)]; exact r6 j k hj hk
    · rw [zo (17 + k) (by omega) (by omega), zo (17 + j) (by omega) (by omega)]; exact r7 j k hj hk
  have hv3 : RPv c3 m := hv.cg (fun k hk => zo _ (by omega) (by omega)) (fun k hk => zo _ (by omega) (by omega)) Ea.rf
  unfold fX8_placeWalk
  rw [tn, bd_eq, z0, bw_eq]
  rcases ahead_both h3 hv3 ha htg with ⟨u1, u2⟩ | ⟨k, hk, fk, u1, u2⟩
  · rw [u1, bd_eq, oc_none, u2, bt_none hs hcur, rn, bd_eq]
    rcases (S1 s hs).2.2.1 with er | ⟨t, ht2, er⟩
    · rw [er, if_pos rfl]
      unfold fX6_fail
      rw [wk_eq, wk_eq, bw_eq]
      refine ⟨_, ⟨fun b h1 h2 => by rw [wr_ne _ _ _ h1, wr_ne _ _ _ h1, zo b h1 h2], ?_, ?_, ?_, ?_, ?_, fun j hj => ?_⟩, Or.inr (Or.inr ⟨rfl, rfl, ?_, ?_⟩)⟩
      · simp (disch := omega) only [wr_same, wr_i, wr_b, z1]
      · simp (disch := omega) only [wr_same, wr_i, wr_b, z2]
      · simp (disch := omega) only [wr_same, wr_i, wr_b, z3]
      · simp (disch := omega) only [wr_same, wr_i, wr_b, z4]
      · simp (disch := omega) only [wr_same, wr_i, wr_b, z8]
      · simp (disch := omega) only [wr_same, wr_i, wr_b]
        exact z9 j hj
      · simp (disch := omega) only [wr_same, wr_i, wr_b]
      · simp (disch := omega) only [wr_same, wr_i, wr_b]
    · rw [er, if_neg (by rw [m1ne (by omega)]; exact id), bd_eq]
      unfold fX6_leadOn
      rw [wk_eq, wk_eq, wk_eq, wk_eq, bw_eq]
      refine ⟨_, ⟨fun b h1 h2 => by rw [wr_ne _ _ _ h1, wr_ne _ _ _ h1, wr_ne _ _ _ h1, wr_ne _ _ _ h1, zo b h1 h2], ?_, ?_, ?_, ?_, ?_, fun j hj => ?_⟩, Or.inr (Or.inl ⟨t, ht2, rfl, ?_, ?_, ?_, ?_, ?_⟩)⟩
      · simp (disch := omega) only [wr_same, wr_i, wr_b, z1]
      · simp (disch := omega) only [wr_same, wr_i, wr_b, z2]
      · simp (disch := omega) only [wr_same, wr_i, wr_b, z3]
      · simp (disch := omega) only [wr_same, wr_i, wr_b, z4]
      · simp (disch := omega) only [wr_same, wr_i, wr_b, z8]
      · simp (disch := omega) only [wr_same, wr_i, wr_b]
        exact z9 j hj
      · rw [if_pos (show (0 : Int32) ≤ nI t from nI_le (a := 0) (by omega) (by omega))]
      · simp (disch := omega) only [wr_same, wr_i, wr_b]
      · simp (disch := omega) only [wr_same, wr_i, wr_b]
        rfl
      · simp (disch := omega) only [wr_same, wr_i, wr_b]
      · simp (disch := omega) only [wr_same, wr_i, wr_b]
        rfl
  · rcases h3.dich hk with ⟨-, ⟨-, -, p1, p2, p3, p4, p5, p6, ⟨l, f, hl, hf, p8, p9, p10⟩, -⟩, -⟩ | ⟨e, -⟩
    · obtain ⟨⟨t, ht2, et⟩, ⟨r, hr, er⟩, hl0⟩ := hv3.2 k hk fk
      rw [p8] at hl0 p2
      have l0 : 0 < l := by
        rcases Nat.eq_zero_or_pos l with z | z
        · subst z; exact absurd rfl hl0
        · exact z
      have el : nI l - 1 = nI (l - 1) := pk_sub (b := 1) l0
      rw [u1, bd_eq, oc_some _ _ (isPl17 k hk), u2, bt_some (l := l - 1) (t := t) (r := r) hk (by rw [p8, el]) et er, p2, p4, p5, et, er, el]
      unfold fX6_leadOn
      rw [wk_eq, wk_eq, wk_eq, wk_eq, bw_eq]
      refine ⟨_, ⟨fun b h1 h2 => by rw [wr_ne _ _ _ h1, wr_ne _ _ _ h1, wr_ne _ _ _ h1, wr_ne _ _ _ h1, zo b h1 h2], ?_, ?_, ?_, ?_, ?_, fun j hj => ?_⟩, Or.inl ⟨k, l - 1, t, r, hk, by rw [← zo (17 + k) (by omega) (by omega)]; exact fk, by omega, ht2, hr, rfl, rfl, ?_, ?_, ?_, ?_⟩⟩
      · simp (disch := omega) only [wr_same, wr_i, wr_b, z1]
      · simp (disch := omega) only [wr_same, wr_i, wr_b, z2]
      · simp (disch := omega) only [wr_same, wr_i, wr_b, z3]
      · simp (disch := omega) only [wr_same, wr_i, wr_b, z4]
      · simp (disch := omega) only [wr_same, wr_i, wr_b, z8]
      · simp (disch := omega) only [wr_same, wr_i, wr_b]
        exact z9 j hj
      · simp (disch := omega) only [wr_same, wr_i, wr_b]
      · simp (disch := omega) only [wr_same, wr_i, wr_b]
      · simp (disch := omega) only [wr_same, wr_i, wr_b]
      · simp (disch := omega) only [wr_same, wr_i, wr_b]
    · rw [e] at fk; exact absurd fk (by decide)
/-- what the beginning of a walk may change -/
def FbC (w : Nat) (c c' : Mm) : Prop := ∀ b, b ≠ 0 → b ≠ 15 → b < 17 ∨ 23 ≤ b → b ≠ w → b ≠ w + 1 → c' b = c b
def FbM (m m' : Mm) : Prop := (∀ i, i < 234 → m' 1 i = m 1 i) ∧ (∀ i, 276 ≤ i → i ≠ 320 → i ≠ 324 → m' 1 i = m 1 i) ∧ (∀ b, 2 ≤ b → m' b = m b) ∧ ∀ i, i < 11 ∨ i = 14 ∨ i = 15 ∨ 17 ≤ i → m' 0 i = m 0 i
/-- how a walk has begun -/
def Beg (w : Nat) (c m : Mm) : Prop := (c w 0 = 1 ∧ m 0 16 = 0 ∧ ∃ l t r, l < 3 ∧ t < 12 ∧ r < 8 ∧ c w 5 = nI l ∧ c w 6 = nI t ∧ c w 7 = nI r ∧ m 0 11 = nI l ∧ m 0 12 = nI t ∧ m 0 13 = nI r) ∨ (c w 0 = 3 ∧ c w 9 = 1 ∧ m 0 16 = 1)
theorem nM_fb (m : Mm) (root f : Int32) : FbM m (nM m root f) := by
  unfold nM
  refine ⟨fun i _ => ?_, fun i _ _ _ => ?_, fun b hb => ?_, fun i hi => ?_⟩
  · simp (disch := omega) only [wr_same, wr_i, wr_b]
  · simp (disch := omega) only [wr_same, wr_i, wr_b]
  · rw [wr_ne _ _ _ (by omega), wr_ne _ _ _ (by omega), wr_ne _ _ _ (by omega), wr_ne _ _ _ (by omega), wr_ne _ _ _ (by omega)]
  · simp (disch := omega) only [wr_same, wr_i, wr_b]
theorem nM_1 (m : Mm) (root f : Int32) : nM m root f 1 = m 1 := by
  unfold nM
  rw [wr_ne _ _ _ (by omega), wr_ne _ _ _ (by omega), wr_ne _ _ _ (by omega), wr_ne _ _ _ (by omega), wr_ne _ _ _ (by omega)]
theorem bM_fb {m : Mm} {k l t r : Nat} (hk : k < 6) : FbM m (bM m k l t r) := by
  unfold bM
  refine ⟨fun i _ => ?_, fun i _ _ _ => ?_, fun b hb => ?_, fun i hi => ?_⟩
  · simp (disch := omega) only [wr_same, wr_i, wr_b]
  · simp (disch := omega) only [wr_same, wr_i, wr_b]
  · rw [wr_ne _ _ _ (by omega), wr_ne _ _ _ (by omega), wr_ne _ _ _ (by omega), wr_ne _ _ _ (by omega), wr_ne _ _ _ (by omega), wr_ne _ _ _ (by omega), wr_ne _ _ _ (by omega)]
  · simp (disch := omega) only [wr_same, wr_i, wr_b]
theorem start_both {n B cap w a wa g tg s : Nat} {c m : Mm} (hC : Core n B cap c m) (hB : B + 1 < 2 ^ 30) (hw : 24 ≤ w ∧ w ≤ 32) (ha : a < 512) (hg : g < 2) (htg : tg < 3) (hs : s < 6) (hcur : m 1 344 = nI s) (ht : m 1 (332 + s) = nI tg) : ∃ c' m', fX8_startWalk c w (nI a) (nI wa) (nI g) = some (c', ()) ∧ fX9_begins m (nI tg) (nI a) = some (m', ()) ∧ Core n (B + 1) cap c' m' ∧ FbC w c c' ∧ FbM m m' ∧ c' w 1 = nI a ∧ c' w 2 = nI wa ∧ c' w 3 = nI g ∧ c' w 4 = nI tg ∧ c' w 8 = 0 ∧ Beg w c' m' := by
  obtain ⟨q1, q2, q3, q4, q5, q6, q8, q9, q10, q11⟩ := id hC
  obtain ⟨c1, ⟨zo, z1, z2, z3, z4, z8, z9⟩, H⟩ := place_both (wa := wa) q2 q5 q6 hw ha hg htg hs hcur ht
  have none_ : ∀ m', m' 1 = m 1 → FbM m m' → Core n (B + 1) cap c1 m' := fun m' e1 e2 => (hC.cg (by omega) (q1.cg (zo 1 (by omega) (by omega)) (zo 2 (by omega) (by omega)) (Ea.of _ _ e1)) (fun b h1 h2 => zo b (by omega) (by omega)) (fun i _ => by rw [e1]) (e2.2.2.2 6 (by decide)) (e2.2.2.2 7 (by decide)) (e2.2.2.2 8 (by decide)) (fun b h1 h2 => e2.2.2.1 b (by omega))).le (by omega)
  unfold fX8_startWalk
  rcases H with ⟨k, l, t, r, hk, fk, hl, ht2, hr, p1, p2, y0, y5, y6, y7⟩ | ⟨t, ht2, p1, p2, y0, y5, y6, y7⟩ | ⟨p1, p2, y0, y9⟩
  · rw [p1, bw_eq, oc_some _ _ (isPl17 k hk), touch_sp (by omega), bw_eq, wk_eq, p2]
    refine ⟨_, _, rfl, rfl, ?_, ?_, bM_fb hk, ?_, ?_, ?_, ?_, ?_, Or.inl ⟨?_, ?_, l, t, r, by omega, ht2, hr, ?_, ?_, ?_, ?_, ?_, ?_⟩⟩
    · have e14 : c1 0 14 = m 1 324 := by rw [zo 0 (by omega) (by omega)]; exact q8.2.2.2.1
      have mo : ∀ i, i ≠ 320 → i ≠ 324 → i ≠ 234 + 7 * k + 6 → bM m k l t r 1 i = m 1 i := fun i h1 h2 h3 => by unfold bM; simp (disch := omega) only [wr_same, wr_i, wr_b]
      have m320 : bM m k l t r 1 320 = m 1 320 + 1 := by unfold bM; simp (disch := omega) only [wr_same, wr_i, wr_b]
      have m324 : bM m k l t r 1 324 = m 1 324 + 1 := by unfold bM; simp (disch := omega) only [wr_same, wr_i, wr_b]
      have m6 : bM m k l t r 1 (234 + 7 * k + 6) = m 1 320 + 1 := by unfold bM; simp (disch := omega) only [wr_same, wr_i, wr_b]
      have mz : ∀ b, 2 ≤ b → bM m k l t r b = m b := (bM_fb hk).2.2.1
      have m0 : ∀ i, i < 11 → bM m k l t r 0 i = m 0 i := fun i hi => (bM_fb hk).2.2.2 i (by omega)
      generalize bM m k l t r = m' at mo m320 m324 m6 mz m0
      obtain ⟨c', ec'⟩ : ∃ c', wr (wr (wr c1 15 1 (c1 15 1 + 1)) (17 + k) 7 (c1 15 1 + 1)) 0 14 (wr (wr c1 15 1 (c1 15 1 + 1)) (17 + k) 7 (c1 15 1 + 1) 0 14 + 1) = c' := ⟨_, rfl⟩
      rw [ec']
      have co : ∀ b, b ≠ 0 → b ≠ 15 → b ≠ 17 + k → b ≠ w → b ≠ w + 1 → c' b = c b := fun b h1 h2 h3 h4 h5 => by
        rw [← ec', wr_ne _ _ _ h1, wr_ne _ _ _ h3, wr_ne _ _ _ h2, zo b h4 h5]
      have c15 : c' 15 1 = c 15 1 + 1 := by
        rw [← ec', zo 15 (by omega) (by omega)]; simp (disch := omega) only [wr_same, wr_i, wr_b]
      have c7 : c' (17 + k) 7 = c 15 1 + 1 := by
        rw [← ec', zo 15 (by omega) (by omega)]; simp (disch := omega) only [wr_same, wr_i, wr_b]
      have ci : ∀ i, i ≠ 7 → c' (17 + k) i = c (17 + k) i := fun i hi => by
        rw [← ec', ← zo (17 + k) (by omega) (by omega)]; simp (disch := omega) only [wr_same, wr_i, wr_b]
      have c0 : ∀ i, i ≠ 14 → c' 0 i = c 0 i := fun i hi => by
        rw [← ec', ← zo 0 (by omega) (by omega)]; simp (disch := omega) only [wr_same, wr_i, wr_b]
      have c14 : c' 0 14 = c 0 14 + 1 := by
        rw [← ec', ← zo 0 (by omega) (by omega)]; simp (disch := omega) only [wr_same, wr_i, wr_b]
      have E : ∀ lo hi, hi ≤ 234 ∨ (276 ≤ lo ∧ hi ≤ 320) ∨ 325 ≤ lo → Ea lo hi m m' := fun lo hi h i h1 h2 => mo i (by omega) (by omega) (by omega)
      have K := q4.ck1 (m' := m') hB m320
      -- the upper store in a world of its own: only what it looks at
      have T5 : RPB (B + 1) 17 15 234 c' m' := by
        have t := touch_rel (k := k) (c' := wr (wr c 15 1 (c 15 1 + 1)) (17 + k) 7 (c 15 1 + 1)) (m' := wr (wr m 1 320 (m 1 320 + 1)) 1 (234 + 7 * k + 6) (m 1 320 + 1)) q5 hB (by decide) (by decide) hk fk (by simp (disch := omega) only [wr_same, wr_i, wr_b]) (by simp (disch := omega) only [wr_same, wr_i, wr_b]) (fun i hi => by simp (disch := omega) only [wr_same, wr_i, wr_b]) (fun z h1 h2 => by rw [wr_ne _ _ _ h2, wr_ne _ _ _ h1]) (by simp (disch := omega) only [wr_same, wr_i, wr_b]) (by simp (disch := omega) only [wr_same, wr_i, wr_b]) (fun i h1 h2 => by simp (disch := omega) only [wr_same, wr_i, wr_b]) (fun z hz => by rw [wr_ne _ _ _ hz, wr_ne _ _ _ hz])
        refine t.cg (fun j hj => ?_) ?_ ?_ (fun i h1 h2 => ?_)
        · funext i
          by_cases e : j = k
          · subst e
            by_cases e2 : i = 7
            · subst e2
              rw [c7, wr_same]
            · rw [ci i e2]; simp (disch := omega) only [wr_same, wr_i, wr_b]
          · rw [co _ (by omega) (by omega) (by omega) (by omega) (by omega)]; simp (disch := omega) only [wr_same, wr_i, wr_b]
        · rw [c15]; simp (disch := omega) only [wr_same, wr_i, wr_b]
        · obtain ⟨x, y, kc, km, r1, r2, r3, r4, -⟩ := t
          exact ⟨Nat.le_refl _, hB, km, km, r3, r4, by rw [m320, ← r3]; simp (disch := omega) only [wr_same, wr_i, wr_b], Nat.le_refl _, r4⟩
        · by_cases e : i = 234 + 7 * k + 6
          · subst e
            rw [m6]; simp (disch := omega) only [wr_same, wr_i, wr_b]
          · rw [mo i (by omega) (by omega) e]; simp (disch := omega) only [wr_same, wr_i, wr_b]
      refine ⟨q1.cg (co 1 (by omega) (by omega) (by omega) (by omega) (by omega)) (co 2 (by omega) (by omega) (by omega) (by omega) (by omega)) (E _ _ (by omega)), q2.cg (by rw [co 3 (by omega) (by omega) (by omega) (by omega) (by omega)]) (co 4 (by omega) (by omega) (by omega) (by omega) (by omega)) (co 5 (by omega) (by omega) (by omega) (by omega) (by omega)) (E _ _ (by omega)) (mo 344 (by omega) (by omega) (by omega)), q3.cg (co 3 (by omega) (by omega) (by omega) (by omega) (by omega)) (co 6 (by omega) (by omega) (by omega) (by omega) (by omega)) K (E _ _ (by omega)),
        q4.cg (fun j hj => co _ (by omega) (by omega) (by omega) (by omega) (by omega)) (by rw [co 7 (by omega) (by omega) (by omega) (by omega) (by omega)]) K (E _ _ (by omega)), T5, ⟨fun j hj => ?_, fun j hj => ?_⟩, ⟨?_, ?_, ?_, ?_, ?_⟩,
        q9.cg (Nat.le_refl _) (by rw [co 37 (by omega) (by omega) (by omega) (by omega) (by omega)]) (co 38 (by omega) (by omega) (by omega) (by omega) (by omega)) (co 39 (by omega) (by omega) (by omega) (by omega) (by omega)) (m0 6 (by decide)) (m0 7 (by decide)) (mz 3 (by decide)) (mz 4 (by decide)) (mz 5 (by decide)),
        q10.cg (Nat.le_refl _) (co 40 (by omega) (by omega) (by omega) (by omega) (by omega)) (co 41 (by omega) (by omega) (by omega) (by omega) (by omega)) (co 42 (by omega) (by omega) (by omega) (by omega) (by omega)) (co 43 (by omega) (by omega) (by omega) (by omega) (by omega)) (m0 8 (by decide)) (mz 6 (by decide)) (mz 7 (by decide)), ⟨fun j hj => ?_, fun j hj => ?_, fun j hj => ?_⟩⟩
      · rw [co _ (by omega) (by omega) (by omega) (by omega) (by omega), mo _ (by omega) (by omega) (by omega), mo _ (by omega) (by omega) (by omega)]
        exact q6.1 j hj
      · have e0 : c' (17 + j) 0 = c (17 + j) 0 := by
          by_cases e : j = k
          · subst e; exact ci 0 (by decide)
          · rw [co _ (by omega) (by omega) (by omega) (by omega) (by omega)]
        rw [e0, mo _ (by omega) (by omega) (by omega), mo _ (by omega) (by omega) (by omega), mo _ (by omega) (by omega) (by omega)]
        exact q6.2 j hj
      · rw [c0 11 (by decide), mo _ (by omega) (by omega) (by omega)]; exact q8.1
      · rw [c0 12 (by decide), mo _ (by omega) (by omega) (by omega)]; exact q8.2.1
      · rw [c0 13 (by decide), mo _ (by omega) (by omega) (by omega)]; exact q8.2.2.1
      · rw [c14, m324, q8.2.2.2.1]
      · rw [c0 15 (by decide), mo _ (by omega) (by omega) (by omega)]; exact q8.2.2.2.2
      · intro hh
        rw [mo _ (by omega) (by omega) (by omega)] at hh ⊢
        obtain ⟨s, hs, es⟩ := q11.1 j hj hh
        exact ⟨s, hs, by rw [mo _ (by omega) (by omega) (by omega)]; exact es⟩
      · intro hh
        rw [mo _ (by omega) (by omega) (by omega)] at hh ⊢
        obtain ⟨s, hs, es⟩ := q11.2.1 j hj hh
        exact ⟨s, hs, by rw [mo _ (by omega) (by omega) (by omega)]; exact es⟩
      · intro hh
        rw [mo _ (by omega) (by omega) (by omega)] at hh ⊢
        obtain ⟨s, hs, es⟩ := q11.2.2 j hj hh
        exact ⟨s, hs, by rw [mo _ (by omega) (by omega) (by omega)]; exact es⟩
    · intro b h1 h2 h3 h4 h5
      rw [wr_ne _ _ _ h1, wr_ne _ _ _ (by omega), wr_ne _ _ _ h2, zo b h4 h5]
    · simp (disch := omega) only [wr_same, wr_i, wr_b, z1]
    · simp (disch := omega) only [wr_same, wr_i, wr_b, z2]
    · simp (disch := omega) only [wr_same, wr_i, wr_b, z3]
    · simp (disch := omega) only [wr_same, wr_i, wr_b, z4]
    · simp (disch := omega) only [wr_same, wr_i, wr_b, z8]
    · simp (disch := omega) only [wr_same, wr_i, wr_b, y0]
    · unfold bM; simp (disch := omega) only [wr_same, wr_i, wr_b]
    · simp (disch := omega) only [wr_same, wr_i, wr_b, y5]
    · simp (disch := omega) only [wr_same, wr_i, wr_b, y6]
    · simp (disch := omega) only [wr_same, wr_i, wr_b, y7]
    · unfold bM; simp (disch := omega) only [wr_same, wr_i, wr_b]
    · unfold bM; simp (disch := omega) only [wr_same, wr_i, wr_b]
    · unfold bM; simp (disch := omega) only [wr_same, wr_i, wr_b]
  · rw [p1, bw_eq, oc_none, p2]
    refine ⟨_, _, rfl, rfl, none_ _ (nM_1 _ _ _) (nM_fb _ _ _), fun b h1 h2 h3 h4 h5 => zo b h4 h5, nM_fb _ _ _, z1, z2, z3, z4, z8, Or.inl ⟨y0, ?_, 2, t, 7, by decide, ht2, by decide, y5, y6, y7, ?_, ?_, ?_⟩⟩
    · unfold nM; simp (disch := omega) only [wr_same, wr_i, wr_b]
    · unfold nM; simp (disch := omega) only [wr_same, wr_i, wr_b]
      rfl
    · unfold nM; simp (disch := omega) only [wr_same, wr_i, wr_b]
    · unfold nM; simp (disch := omega) only [wr_same, wr_i, wr_b]
      rfl
  · rw [p1, bw_eq, oc_none, p2]
    refine ⟨_, _, rfl, rfl, none_ _ (nM_1 _ _ _) (nM_fb _ _ _), fun b h1 h2 h3 h4 h5 => zo b h4 h5, nM_fb _ _ _, z1, z2, z3, z4, z8, Or.inr ⟨y0, y9, ?_⟩⟩
    unfold nM; simp (disch := omega) only [wr_same, wr_i, wr_b]
