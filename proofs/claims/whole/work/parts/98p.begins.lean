/-! PURE: where a walk begins -/
def hitU (tg a k : Nat) (m : Mm) : Prop := m 1 (234 + 7 * k) = nI tg ∧ fX8_firstOf (nI a) (m 1 (234 + 7 * k + 1)) = m 1 (234 + 7 * k + 2)
def BInv (tg a k : Nat) (m : Mm) (x3 : Int32) : Prop := (x3 = -1 ∧ ∀ j, j < k → ¬ hitU tg a j m) ∨ ∃ z, z < k ∧ x3 = nI (234 + 7 * z) ∧ hitU tg a z m ∧ ∀ j, j < k → hitU tg a j m → m 1 (234 + 7 * z + 1) ≤ m 1 (234 + 7 * j + 1)
theorem BInv.no {tg a k : Nat} {m : Mm} {x3 : Int32} (h : BInv tg a k m x3) (hn : ¬ hitU tg a k m) : BInv tg a (k + 1) m x3 := by
  rcases h with ⟨e, h⟩ | ⟨z, hz, e, h1, h2⟩
  · refine Or.inl ⟨e, fun j hj => ?_⟩
    by_cases ej : j = k
    · subst ej; exact hn
    · exact h j (by omega)
  · refine Or.inr ⟨z, by omega, e, h1, fun j hj hh => ?_⟩
    by_cases ej : j = k
    · subst ej; exact absurd hh hn
    · exact h2 j (by omega) hh
theorem begins_lp {tg a : Nat} {m : Mm} (ha : a < 512) (htg : tg < 3) (hP : ∀ k, k < 6 → PlOk m (234 + 7 * k)) : ∃ x3, BInv tg a 6 m x3 ∧ fX9_begins m (nI tg) (nI a) = fX9_begins_b5_s (fun _ _ _ _ _ => none) m (nI tg) (nI a) x3 (nI 6) := by
  have key := down (P := fun fu k => ∀ x3, BInv tg a k m x3 → ∃ x3', BInv tg a 6 m x3' ∧ fX9_begins_b5 fu m (nI tg) (nI a) x3 (nI k) = fX9_begins_b5_s (fun _ _ _ _ _ => none) m (nI tg) (nI a) x3' (nI 6)) 6 ?_ ?_ 6 0 2000 rfl (by decide) (-1) (Or.inl ⟨rfl, fun j hj => by omega⟩)
  · exact key
  · intro fu x3 h
    refine ⟨x3, h, ?_⟩
    have L : fX9_begins_b5 (fu + 1) m (nI tg) (nI a) x3 (nI 6) = fX9_begins_b5_s (fX9_begins_b5 fu) m (nI tg) (nI a) x3 (nI 6) := rfl
    rw [L]
    unfold fX9_begins_b5_s
    rw [if_pos (by decide), if_pos (by decide)]
  · intro fu k hk ih x3 h
    have L : fX9_begins_b5 (fu + 1) m (nI tg) (nI a) x3 (nI k) = fX9_begins_b5_s (fX9_begins_b5 fu) m (nI tg) (nI a) x3 (nI k) := rfl
    have no : ¬ hitU tg a k m → ∃ x3', BInv tg a 6 m x3' ∧ fX9_begins_b73 (fX9_begins_b5 fu) m (nI tg) (nI a) x3 (nI k) (nI (234 + 7 * k)) 0 = fX9_begins_b5_s (fun _ _ _ _ _ => none) m (nI tg) (nI a) x3' (nI 6) := fun hn => by
      unfold fX9_begins_b73
      rw [if_pos rfl, na1]
      exact ih x3 (h.no hn)
    have yes : BInv tg a (k + 1) m (nI (234 + 7 * k)) → ∃ x3', BInv tg a 6 m x3' ∧ fX9_begins_b73 (fX9_begins_b5 fu) m (nI tg) (nI a) x3 (nI k) (nI (234 + 7 * k)) 1 = fX9_begins_b5_s (fun _ _ _ _ _ => none) m (nI tg) (nI a) x3' (nI 6) := fun hn => by
      unfold fX9_begins_b73
      rw [if_neg one_ne, na1]
      exact ih _ hn
    obtain ⟨R, eR⟩ : ∃ R, R = fX9_begins_b5_s (fun _ _ _ _ _ => none) m (nI tg) (nI a) := ⟨_, rfl⟩
    rw [← eR] at no yes ⊢
    rw [L]
    unfold fX9_begins_b5_s
    rw [if_neg (by rw [ge6F hk]; exact id), lk_eq, i234, gd_nI (by omega) (by decide), nI_clamp (by omega)]
    by_cases h0 : m 1 (234 + 7 * k) = nI tg
    · rw [if_pos h0]
      rcases under_eq (A := 234 + 7 * k) (by omega) ha (hP k hk) with ⟨u1, u2, u3⟩ | ⟨u1, u2⟩
      · rw [u1, bd_eq, if_neg one_ne]
        rcases h with ⟨rfl, h⟩ | ⟨z, hz, rfl, h1, h2⟩
        · rw [if_pos (by decide)]
          refine yes (Or.inr ⟨k, by omega, rfl, ⟨h0, u3⟩, fun j hj hh => ?_⟩)
          by_cases ej : j = k
          · subst ej; exact le_rf _
          · exact absurd hh (h j (by omega))
        · rw [if_neg (nI_pos (by omega)), na1, na1, gd_nI (by omega) (by decide), gd_nI (by omega) (by decide), nI_clamp (by omega), nI_clamp (by omega)]
          by_cases hu : m 1 (234 + 7 * z + 1) ≤ m 1 (234 + 7 * k + 1)
          · rw [if_pos hu]
            unfold fX9_begins_b73
            rw [if_pos rfl, na1, eR]
            refine ih _ (Or.inr ⟨z, by omega, rfl, h1, fun j hj hh => ?_⟩)
            by_cases ej : j = k
            · subst ej; exact hu
            · exact h2 j (by omega) hh
          · rw [if_neg hu]
            refine yes (Or.inr ⟨k, by omega, rfl, ⟨h0, u3⟩, fun j hj hh => ?_⟩)
            by_cases ej : j = k
            · subst ej; exact le_rf _
            · exact le_tr (le_of_nle hu) (h2 j (by omega) hh)
      · rw [u1, bd_eq, if_pos rfl]
        exact no (fun z => u2 ⟨by rw [h0, m1ne (by omega)]; exact id, z.2⟩)
    · rw [if_neg h0]
      exact no (fun z => h0 z.1)
def bM (m : Mm) (k l t r : Nat) : Mm := wr (wr (wr (wr (wr (wr (wr m 0 16 0) 1 320 (m 1 320 + 1)) 1 (234 + 7 * k + 6) (m 1 320 + 1)) 1 324 (m 1 324 + 1)) 0 11 (nI l)) 0 12 (nI t)) 0 13 (nI r)
def nM (m : Mm) (root f : Int32) : Mm := wr (wr (wr (wr (wr m 0 16 0) 0 11 2) 0 13 7) 0 12 root) 0 16 f
theorem bt_none {m : Mm} {s : Nat} {tg a : Int32} {K : Mm → Int32 → Int32 → Int32 → Int32 → Option (Mm × Unit)} (hs : s < 6) (h : m 1 344 = nI s) : fX9_begins_b5_s K m tg a (-1) (nI 6) = some (nM m (m 1 (326 + s)) (if 0 ≤ m 1 (326 + s) then 0 else 1), ()) := by
  unfold fX9_begins_b5_s nM
  rw [if_pos (by decide), wk_eq, if_pos (by decide), wk_eq, wk_eq, glit344, cl344]
  have e : wr (wr (wr m 0 16 0) 0 11 2) 0 13 7 1 = m 1 := by rw [wr_ne _ _ _ (by decide), wr_ne _ _ _ (by decide), wr_ne _ _ _ (by decide)]
  rw [e, h, i326, gd_nI (by omega) (by decide), nI_clamp (by omega), wk_eq, wr_same]
  by_cases h0 : 0 ≤ m 1 (326 + s)
  · rw [if_pos h0, if_pos h0, wk_eq]
  · rw [if_neg h0, if_neg h0, wk_eq]
theorem bt_some {m : Mm} {k l t r : Nat} {tg a : Int32} {K : Mm → Int32 → Int32 → Int32 → Int32 → Option (Mm × Unit)} (hk : k < 6) (hl : m 1 (234 + 7 * k + 1) - 1 = nI l) (ht : m 1 (234 + 7 * k + 3) = nI t) (hr : m 1 (234 + 7 * k + 4) = nI r) : fX9_begins_b5_s K m tg a (nI (234 + 7 * k)) (nI 6) = some (bM m k l t r, ()) := by
  unfold fX9_begins_b5_s bM
  rw [if_pos (by decide), wk_eq, if_neg (nI_pos (by omega)), used_sp (by omega), bw_eq, wr_ne _ _ _ (show (1 : Nat) ≠ 0 by decide)]
  simp (disch := omega) only [eq_self, l21, l12, l20, na0, Nat.reduceAdd, wk_eq, lk_eq, lkN_eq, bd_eq, bw_eq, gd_nI, nI_clamp, na1, na2, na3, na4, na5, na6, na7, na8, na9, i192, i234, i276, i326, i332, i338, i96, i0, i8, ge6F, ge6T, ge4F, ge4T, ltz, lez, Nat.one_mul, if_true, if_false, one_ne, one_eq0, zero_eq0, wr0_1, glit320, glit321, glit322, glit323, glit324, glit325, glit344, cl320, cl321, cl322, cl323, cl324, cl325, cl344]
  simp (disch := omega) only [wr_i, wr_b]
  rw [hl, ht, hr]
theorem reset_sp {c : Mm} {w a wa g tg : Nat} (hg : g < 2) : ∃ c', fX6_reset c w (nI a) (nI wa) (nI g) (nI tg) = some (c', ()) ∧ c' w 1 = nI a ∧ c' w 2 = nI wa ∧ c' w 3 = nI g ∧ c' w 4 = nI tg ∧ c' w 8 = 0 ∧ (∀ j, j < 3 → c' (w + 1) j = -1) ∧ ∀ b, b ≠ w → b ≠ w + 1 → c' b = c b := by
  unfold fX6_reset
  obtain ⟨c2, f1, f2, f3⟩ := fill3 (wr (wr (wr (wr (wr c w 1 (nI a)) w 2 (nI wa)) w 3 (nI g)) w 4 (nI tg)) w 8 0) (w + 1) (-1)
  have gz' : ∀ {α : Type} (k : Option α), gz (nI g) k = k := fun k => by
    rcases (show g = 0 ∨ g = 1 by omega) with rfl | rfl
    · exact gz_0
    · exact gz_1
  rw [wk_eq, wk_eq, gz', wk_eq, wk_eq, wk_eq, f1, bw_eq]
  refine ⟨c2, rfl, ?_, ?_, ?_, ?_, ?_, f3, fun b h1 h2 => ?_⟩
  · rw [f2 w (by omega)]; simp (disch := omega) only [wr_same, wr_i, wr_b]
  · rw [f2 w (by omega)]; simp (disch := omega) only [wr_same, wr_i, wr_b]
  · rw [f2 w (by omega)]; simp (disch := omega) only [wr_same, wr_i, wr_b]
  · rw [f2 w (by omega)]; simp (disch := omega) only [wr_same, wr_i, wr_b]
  · rw [f2 w (by omega)]; simp (disch := omega) only [wr_same, wr_i, wr_b]
  · rw [f2 b h2, wr_ne _ _ _ h1, wr_ne _ _ _ h1, wr_ne _ _ _ h1, wr_ne _ _ _ h1, wr_ne _ _ _ h1]
theorem RPB.ok {B b q a : Nat} {c m : Mm} (h : RPB B b q a c m) {k : Nat} (hk : k < 6) : PlOk m (a + 7 * k) := by
  rcases h.dich hk with ⟨-, pf, -⟩ | ⟨-, e⟩
  · exact Or.inr ⟨pf.2.1, pf.2.2.2.2.2.2.2.2.1⟩
  · exact Or.inl e
/-- both begin behind the same place, or behind none -/
theorem ahead_both {B tg a : Nat} {c m : Mm} (h : RPB B 17 15 234 c m) (hv : RPv c m) (ha : a < 512) (htg : tg < 3) : (fX8_upperAhead c (nI tg) (nI a) = some none ∧ fX9_begins m (nI tg) (nI a) = fX9_begins_b5_s (fun _ _ _ _ _ => none) m (nI tg) (nI a) (-1) (nI 6)) ∨ ∃ k, k < 6 ∧ c (17 + k) 0 = 1 ∧ fX8_upperAhead c (nI tg) (nI a) = some (some (17 + k)) ∧ fX9_begins m (nI tg) (nI a) = fX9_begins_b5_s (fun _ _ _ _ _ => none) m (nI tg) (nI a) (nI (234 + 7 * k)) (nI 6) := by
  obtain ⟨x3, iv, eb⟩ := begins_lp ha htg (m := m) (fun k hk => h.ok hk)
  obtain ⟨x, y, kc, km, r1, r2, r3, r4, r5, r6, r7⟩ := id h
  have fu : ∀ j, j < 6 → ¬ c (17 + j) 0 = 0 → c (17 + j) 0 = 1 := fun j hj hn => by
    rcases h.dich hj with ⟨e, -⟩ | ⟨e, -⟩
    · exact e
    · exact absurd e hn
  -- a hit has level 1 or 2, and the first address that belongs to it
  have hm : ∀ j, j < 6 → hitU tg a j m → c (17 + j) 0 = 1 ∧ ∃ l, (l = 1 ∨ l = 2) ∧ m 1 (234 + 7 * j + 1) = nI l ∧ mtC 17 j (nI tg) (nI l) (fX8_firstOf (nI a) (nI l)) c := fun j hj hh => by
    rcases h.dich hj with ⟨e, ⟨-, -, p1, p2, p3, -, -, -, ⟨l, f, hl, hf, p4, p5, -⟩, -⟩, -⟩ | ⟨e, e2⟩
    · have hl0 := (hv.2 j hj e).2.2
      rw [p4] at hl0
      have hl1 : l = 1 ∨ l = 2 := by
        rcases (show l = 0 ∨ l = 1 ∨ l = 2 by omega) with z | z | z
        · subst z; exact absurd rfl hl0
        · exact Or.inl z
        · exact Or.inr z
      refine ⟨e, l, hl1, p4, by rw [e]; exact one_ne, p1.trans hh.1, p2.trans p4, ?_⟩
      rw [p3, ← hh.2, p4]
    · have := hh.1
      rw [e2, m1n (by omega)] at this
      exact this.elim
  have mh : ∀ j l, j < 6 → mtC 17 j (nI tg) (nI l) (fX8_firstOf (nI a) (nI l)) c → c (17 + j) 0 = 1 ∧ hitU tg a j m ∧ m 1 (234 + 7 * j + 1) = nI l ∧ m 1 (234 + 7 * j + 2) = fX8_firstOf (nI a) (nI l) := fun j l hj t => by
    have e := fu j hj t.1
    rcases h.dich hj with ⟨-, ⟨-, -, p1, p2, p3, -⟩, -⟩ | ⟨e1, -⟩
    · have t2 := p2.symm.trans t.2.2.1
      exact ⟨e, ⟨p1.symm.trans t.2.1, by rw [t2]; exact t.2.2.2.symm.trans p3⟩, t2, p3.symm.trans t.2.2.2⟩
    · rw [e1] at e; exact absurd e (by decide)
  -- the place of the least level is the one that is found
  have pick : ∀ k l, k < 6 → mtC 17 k (nI tg) (nI l) (fX8_firstOf (nI a) (nI l)) c → l < 3 → (∀ j l', j < 6 → l' < l → ¬ mtC 17 j (nI tg) (nI l') (fX8_firstOf (nI a) (nI l')) c) → x3 = nI (234 + 7 * k) := fun k l hk t hl3 hmin => by
    obtain ⟨ek, hk1, hk2, hk3⟩ := mh k l hk t
    rcases iv with ⟨-, no⟩ | ⟨z, hz, ez, z1, z2⟩
    · exact absurd hk1 (no k hk)
    · obtain ⟨fz, l', hl', e1, t'⟩ := hm z hz z1
      have le := z2 k hk hk1
      rw [e1, hk2, nle (by omega) (by omega)] at le
      have ll : l' = l := by
        rcases Nat.lt_or_ge l' l with q | q
        · exact absurd t' (hmin z l' hz q)
        · omega
      subst ll
      have : z = k := r7 z k hz hk fz ek (by rw [z1.1, hk1.1]) (by rw [e1, hk2]) (by rw [← z1.2, hk3, e1])
      rw [ez, this]
  have n0 : ∀ j l', j < 6 → l' < 1 → ¬ mtC 17 j (nI tg) (nI l') (fX8_firstOf (nI a) (nI l')) c := fun j l' hj hl t => by
    obtain ⟨ek, -, e2, -⟩ := mh j l' hj t
    have := (hv.2 j hj ek).2.2
    rw [e2, show l' = 0 by omega] at this
    exact this rfl
  unfold fX8_upperAhead
  rcases find_sp (c := c) (q := 15) (tg := nI tg) (l := 1) (f := fX8_firstOf (nI a) 1) with ⟨f1, f2⟩ | ⟨k, hk, f1, f2⟩
  · rw [f1, bd_eq, oc_none]
    rcases find_sp (c := c) (q := 15) (tg := nI tg) (l := 2) (f := fX8_firstOf (nI a) 2) with ⟨g1, g2⟩ | ⟨k, hk, g1, g2⟩
    · left
      refine ⟨by rw [g1, bd_eq], ?_⟩
      have : x3 = -1 := by
        rcases iv with ⟨e, -⟩ | ⟨z, hz, ez, z1, z2⟩
        · exact e
        · obtain ⟨fz, l', hl', e1, t'⟩ := hm z hz z1
          rcases hl' with rfl | rfl
          · exact absurd t' (f2 z hz)
          · exact absurd t' (g2 z hz)
      rw [eb, this]
    · right
      have e := (mh k 2 hk g2).1
      refine ⟨k, hk, e, by rw [g1, bd_eq], ?_⟩
      rw [eb, pick k 2 hk g2 (by decide) (fun j l' hj hl t => by
        rcases (show l' = 0 ∨ l' = 1 by omega) with rfl | rfl
        · exact n0 j 0 hj (by decide) t
        · exact f2 j hj t)]
  · right
    have e := (mh k 1 hk f2).1
    refine ⟨k, hk, e, ?_, ?_⟩
    · rw [f1, bd_eq, oc_some _ _ (isPl17 k hk)]
    · rw [eb, pick k 1 hk f2 (by decide) n0]
