/-! PURE: the same place is taken by both -/
theorem RPB.dich {B b q a : Nat} {c m : Mm} (h : RPB B b q a c m) {k : Nat} (hk : k < 6) : (c (b + k) 0 = 1 ∧ RPf (b + k) (a + 7 * k) c m ∧ ∃ g, g < 3 ∧ m 1 (a + 7 * k) = nI g) ∨ (c (b + k) 0 = 0 ∧ m 1 (a + 7 * k) = -1) := by
  obtain ⟨x, y, kc, km, r1, r2, r3, r4, r5, r6, r7⟩ := h
  rcases r5 k hk with ⟨e, -⟩ | ⟨e, e2⟩
  · exact Or.inl ⟨e.1, e, e.2.1⟩
  · exact Or.inr ⟨e, e2⟩
theorem RPB.vn {B b q a : Nat} {c m : Mm} (h : RPB B b q a c m) {k : Nat} (hk : k < 6) : Vn 3 (m 1 (a + 7 * k)) := by
  rcases h.dich hk with ⟨-, -, g, hg, e⟩ | ⟨-, e⟩
  · exact Or.inr ⟨g, hg, e⟩
  · exact Or.inl e
theorem pick_both {B q a g : Nat} {c m : Mm} {l f : Int32} (h : RPB B (q + 1 + 1) q a c m) (hB : B < 2 ^ 30) (ha : a + 42 ≤ 320) (hg : g < 3) : ∃ k, k < 6 ∧ (fX5_find c q (nI g) l f = some (some (q + 1 + 1 + k)) ∨ (fX5_find c q (nI g) l f = some none ∧ fX5_emptyOrOldest c q = some (some (q + 1 + 1 + k)))) ∧ fX9_roomIn m (nI a) (nI g) l f = some (nI (a + 7 * k)) ∧ ∀ j, j < 6 → j ≠ k → c (q + 1 + 1 + j) 0 = 1 → m 1 (a + 7 * j) = nI g → m 1 (a + 7 * j + 1) = l → m 1 (a + 7 * j + 2) = f → False := by
  obtain ⟨x, y, kc, km, r1, r2, r3, r4, r5, r6, r7⟩ := id h
  have em : ∀ j, j < 6 → (c (q + 1 + 1 + j) 0 = 0 ↔ m 1 (a + 7 * j) = -1) := fun j hj => by
    rcases h.dich hj with ⟨e, -, v, hv, e2⟩ | ⟨e, e2⟩
    · rw [e, e2, m1ne (by omega)]
      exact ⟨fun h => absurd h one_ne, fun h => h.elim⟩
    · rw [e, e2]
      exact ⟨fun _ => rfl, fun _ => rfl⟩
  have fu : ∀ j, j < 6 → ¬ c (q + 1 + 1 + j) 0 = 0 → c (q + 1 + 1 + j) 0 = 1 := fun j hj hn => by
    rcases h.dich hj with ⟨e, -⟩ | ⟨e, -⟩
    · exact e
    · exact absurd e hn
  have mt : ∀ j, j < 6 → (mtC (q + 1 + 1) j (nI g) l f c ↔ mtM a j (nI g) l f m) := fun j hj => by
    unfold mtC mtM
    rcases h.dich hj with ⟨e, ⟨-, -, p1, p2, p3, -⟩, -⟩ | ⟨e, e2⟩
    · rw [e, p1, p2, p3]
      exact ⟨fun h => h.2, fun h => ⟨one_ne, h⟩⟩
    · rw [e, e2]
      exact ⟨fun h => absurd rfl h.1, fun h => by
        have := h.1
        rw [m1n (by omega)] at this
        exact this.elim⟩
  obtain ⟨r, hr, e1, e2⟩ := room_sp (m := m) (tg := nI g) (l := l) (f := f) ha (fun k hk => h.vn hk)
  have un : ∀ i j, i < 6 → j < 6 → mtC (q + 1 + 1) i (nI g) l f c → mtM a i (nI g) l f m → c (q + 1 + 1 + j) 0 = 1 → mtM a j (nI g) l f m → j = i := fun i j hi hj t1 t2 t3 t4 =>
    r7 j i hj hi t3 (fu i hi t1.1) (by rw [t4.1, t2.1]) (by rw [t4.2.1, t2.2.1]) (by rw [t4.2.2, t2.2.2])
  rcases find_sp (c := c) (q := q) (tg := nI g) (l := l) (f := f) with ⟨f1, f2⟩ | ⟨k, hk, f1, f2⟩
  · have nM : ∀ j, j < 6 → ¬ mtM a j (nI g) l f m := fun j hj t => f2 j hj ((mt j hj).mpr t)
    obtain ⟨k, hk, o1, o2⟩ := old_sp (c := c) (q := q)
    have kr : k = r := by
      rcases e2 with e2 | ⟨-, e2⟩
      · exact absurd e2 (nM r hr)
      · rcases o2 with ⟨o2, o3⟩ | ⟨o2, o3⟩
        · rcases e2 with ⟨e2, e3⟩ | ⟨e2, e3⟩
          · rcases Nat.lt_trichotomy k r with t | t | t
            · exact absurd ((em k hk).mp o2) (e3 k t)
            · exact t
            · exact absurd ((em r hr).mpr e2) (o3 r t)
          · exact absurd ((em k hk).mp o2) (e2 k hk)
        · rcases e2 with ⟨e2, e3⟩ | ⟨e2, e3⟩
          · exact absurd ((em r hr).mpr e2) (o2 r hr)
          · have u1 := o3 r hr
            have u2 := e3 k hk
            have fk := fu k hk (o2 k hk)
            have fr := fu r hr (o2 r hr)
            rcases r5 k hk with ⟨-, v1, v2, v3, v4⟩ | ⟨v1, -⟩
            · rcases r5 r hr with ⟨-, w1, w2, w3, w4⟩ | ⟨w1, -⟩
              · rw [v1, w1, nle (by omega) (by omega)] at u1
                rw [v2, w2, nle (by omega) (by omega)] at u2
                have s1 := (r6 k r hk hr fk fr).1
                exact (r6 k r hk hr fk fr).2 (by omega)
              · exact absurd w1 (o2 r hr)
            · exact absurd v1 (o2 k hk)
    refine ⟨k, hk, Or.inr ⟨f1, o1⟩, by rw [kr]; exact e1, fun j hj _ _ t1 t2 t3 => nM j hj ⟨t1, t2, t3⟩⟩
  · have tk := (mt k hk).mp f2
    have kr : r = k := by
      rcases e2 with e2 | ⟨e2, -⟩
      · exact un k r hk hr f2 tk (fu r hr ((mt r hr).mpr e2).1) e2
      · exact absurd tk (e2 k hk)
    exact ⟨k, hk, Or.inl f1, by rw [← kr]; exact e1, fun j hj hjk t0 t1 t2 t3 => hjk (un k j hk hj f2 tk t0 ⟨t1, t2, t3⟩)⟩
def tkC (c : Mm) (q p : Nat) (tg l f : Int32) : Mm := wr (wr (wr (wr (wr (wr c p 0 1) p 1 tg) p 2 l) p 3 f) q 1 (c q 1 + 1)) p 7 (c q 1 + 1)
theorem touch_sp {c : Mm} {q p : Nat} (_h : q ≠ p) : fX5_touch c q p = some (wr (wr c q 1 (c q 1 + 1)) p 7 (c q 1 + 1), ()) := by
  unfold fX5_touch
  rw [wk_eq, wk_eq, wr_same]
theorem b20_sp {c : Mm} {q p : Nat} {tg l f : Int32} (h : q ≠ p) (hp : isPlB p = true) : fX5_take_b20 c q tg l f (some p) = some (tkC c q p tg l f, some p) := by
  unfold fX5_take_b20
  rw [oc_some _ _ hp, wk_eq, wk_eq, wk_eq, wk_eq, touch_sp h, bw_eq]
  unfold tkC
  rw [wr_b _ _ _ _ h, wr_b _ _ _ _ h, wr_b _ _ _ _ h, wr_b _ _ _ _ h]
theorem tk_put {c : Mm} {q k : Nat} {tg l f to ri di : Int32} : PutC (q + 1 + 1) q k tg l f to ri di c (wr (wr (wr (tkC c q (q + 1 + 1 + k) tg l f) (q + 1 + 1 + k) 4 to) (q + 1 + 1 + k) 5 ri) (q + 1 + 1 + k) 6 di) := by
  unfold PutC tkC
  refine ⟨?_, ?_, ?_, ?_, ?_, ?_, ?_, ?_, ?_, fun z h1 h2 => ?_⟩
  · simp (disch := omega) only [wr_same, wr_i, wr_b]
  · simp (disch := omega) only [wr_same, wr_i, wr_b]
  · simp (disch := omega) only [wr_same, wr_i, wr_b]
  · simp (disch := omega) only [wr_same, wr_i, wr_b]
  · simp (disch := omega) only [wr_same, wr_i, wr_b]
  · simp (disch := omega) only [wr_same, wr_i, wr_b]
  · simp (disch := omega) only [wr_same, wr_i, wr_b]
  · simp (disch := omega) only [wr_same, wr_i, wr_b]
  · simp (disch := omega) only [wr_same, wr_i, wr_b]
  · rw [wr_ne _ _ _ h2, wr_ne _ _ _ h2, wr_ne _ _ _ h2, wr_ne _ _ _ h2, wr_ne _ _ _ h1, wr_ne _ _ _ h2, wr_ne _ _ _ h2, wr_ne _ _ _ h2, wr_ne _ _ _ h2]
theorem used_sp {m : Mm} {A : Nat} (hA : A + 7 ≤ 320) : fX9_isUsed m (nI A) = some (wr (wr m 1 320 (m 1 320 + 1)) 1 (A + 6) (m 1 320 + 1), ()) := by
  unfold fX9_isUsed
  simp (disch := omega) only [eq_self, l21, l12, l20, na0, Nat.reduceAdd, wk_eq, lk_eq, lkN_eq, bd_eq, bw_eq, gd_nI, nI_clamp, na1, na2, na3, na4, na5, na6, na7, na8, na9, i192, i234, i276, i326, i332, i338, i96, i0, i8, ge6F, ge6T, ge4F, ge4T, ltz, lez, Nat.one_mul, if_true, if_false, one_ne, one_eq0, zero_eq0, wr0_1, glit320, glit321, glit322, glit323, glit324, glit325, glit344, cl320, cl321, cl322, cl323, cl324, cl325, cl344, wr_same]
theorem fst_eq {l ad : Nat} (hl : l < 3) (had : ad < 512) : nI ad / fX9_wide (nI l) * fX9_wide (nI l) = nI (ad - ad % 8 ^ l) := by
  obtain ⟨-, w, p, q⟩ := wid_eq l hl
  rw [w, pk_div (by omega) p (by omega), nI_mul]
  congr 1
  have := Nat.div_add_mod ad (8 ^ l)
  rw [Nat.mul_comm] at this
  omega
theorem comes_sp {m : Mm} {a k l ad : Nat} {tg to ri di : Int32} (ha : a + 42 ≤ 320) (hk : k < 6) (hl : l < 3) (had : ad < 512) (hr : fX9_roomIn m (nI a) tg (nI l) (nI (ad - ad % 8 ^ l)) = some (nI (a + 7 * k))) : ∃ m', fX9_comes m (nI a) tg (nI l) (nI ad) to ri di = some (m', ()) ∧ PutM a k tg (nI l) (nI (ad - ad % 8 ^ l)) to ri di m m' := by
  unfold fX9_comes
  rw [nz_wide hl, lk_eq, fst_eq hl had, hr, bd_eq]
  simp (disch := omega) only [eq_self, l21, l12, l20, na0, Nat.reduceAdd, wk_eq, lk_eq, lkN_eq, bd_eq, bw_eq, gd_nI, nI_clamp, na1, na2, na3, na4, na5, na6, na7, na8, na9, i192, i234, i276, i326, i332, i338, i96, i0, i8, ge6F, ge6T, ge4F, ge4T, ltz, lez, Nat.one_mul, if_true, if_false, one_ne, one_eq0, zero_eq0, wr0_1, glit320, glit321, glit322, glit323, glit324, glit325, glit344, cl320, cl321, cl322, cl323, cl324, cl325, cl344]
  rw [used_sp (by omega), bw_eq]
  refine ⟨_, rfl, ?_⟩
  unfold PutM
  refine ⟨?_, ?_, ?_, ?_, ?_, ?_, ?_, ?_, fun i h1 h2 => ?_, fun z hz => ?_⟩
  · simp (disch := omega) only [wr_same, wr_i, wr_b]
  · simp (disch := omega) only [wr_same, wr_i, wr_b]
  · simp (disch := omega) only [wr_same, wr_i, wr_b]
  · simp (disch := omega) only [wr_same, wr_i, wr_b]
  · simp (disch := omega) only [wr_same, wr_i, wr_b]
  · simp (disch := omega) only [wr_same, wr_i, wr_b]
  · simp (disch := omega) only [wr_same, wr_i, wr_b]
  · simp (disch := omega) only [wr_same, wr_i, wr_b]
  · simp (disch := omega) only [wr_same, wr_i, wr_b]
  · rw [wr_ne _ _ _ hz, wr_ne _ _ _ hz, wr_ne _ _ _ hz, wr_ne _ _ _ hz, wr_ne _ _ _ hz, wr_ne _ _ _ hz, wr_ne _ _ _ hz, wr_ne _ _ _ hz]
/-- whatever the places hold, the reference finds room -/
theorem comes_any {m : Mm} {a l ad : Nat} {tg to ri di : Int32} (ha : a + 42 ≤ 320) (hl : l < 3) (had : ad < 512) (hV : ∀ k, k < 6 → Vn 3 (m 1 (a + 7 * k))) : ∃ m' k, k < 6 ∧ fX9_comes m (nI a) tg (nI l) (nI ad) to ri di = some (m', ()) ∧ PutM a k tg (nI l) (nI (ad - ad % 8 ^ l)) to ri di m m' := by
  obtain ⟨r, hr, e1, -⟩ := room_sp (m := m) (tg := tg) (l := nI l) (f := nI (ad - ad % 8 ^ l)) ha hV
  obtain ⟨m', e2, e3⟩ := comes_sp (to := to) (ri := ri) (di := di) ha hr hl had e1
  exact ⟨m', r, hr, e2, e3⟩
theorem come_both {B q a g l ad : Nat} {c m : Mm} {to ri di : Int32} (h : RPB B (q + 1 + 1) q a c m) (hB : B < 2 ^ 30) (ha : a + 42 ≤ 320) (hpl : ∀ k, k < 6 → isPlB (q + 1 + 1 + k) = true) (hg : g < 3) (hl : l < 3) (had : ad < 512) : ∃ k m', k < 6 ∧ fX5_take c q (nI g) (nI l) (nI (ad - ad % 8 ^ l)) = some (tkC c q (q + 1 + 1 + k) (nI g) (nI l) (nI (ad - ad % 8 ^ l)), some (q + 1 + 1 + k)) ∧ fX9_comes m (nI a) (nI g) (nI l) (nI ad) to ri di = some (m', ()) ∧ PutM a k (nI g) (nI l) (nI (ad - ad % 8 ^ l)) to ri di m m' ∧ ∀ j, j < 6 → j ≠ k → c (q + 1 + 1 + j) 0 = 1 → m 1 (a + 7 * j) = nI g → m 1 (a + 7 * j + 1) = nI l → m 1 (a + 7 * j + 2) = nI (ad - ad % 8 ^ l) → False := by
  obtain ⟨k, hk, p1, p2, p3⟩ := pick_both (l := nI l) (f := nI (ad - ad % 8 ^ l)) h hB ha hg
  obtain ⟨m', e2, e3⟩ := comes_sp (to := to) (ri := ri) (di := di) ha hk hl had p2
  refine ⟨k, m', hk, ?_, e2, e3, p3⟩
  unfold fX5_take
  rcases p1 with p1 | ⟨p0, p1⟩
  · rw [p1, bd_eq, oc_some _ _ (hpl k hk), b20_sp (by omega) (hpl k hk)]
  · rw [p0, bd_eq, oc_none, p1, bd_eq, oc_some _ _ (hpl k hk), b20_sp (by omega) (hpl k hk)]
