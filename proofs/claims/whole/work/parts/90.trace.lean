/-! PURE: the way as it is now, both sides at once -/
def TWc (f a l t : Nat) (c m : Mm) (ρ : Int32) : Prop := ∃ c', fX8_trace_b38 f c (nI a) (nI t) ρ (nI l) = some (c', ()) ∧ Sc c c' ∧ (∀ j, l < j → c' 35 j = c 35 j ∧ c' 36 j = c 36 j) ∧ (∀ j, j ≤ l → c' 35 j = c 35 j ∨ ∃ x, x < 96 ∧ c' 35 j = nI x) ∧
  (∃ m' r, fX9_walksNow_b33 f m (nI a) 0 (nI t) (nI l) = some (m', r) ∧ Sm m m' ∧ m' 0 0 = m 0 0 ∧ ((r = 0 ∧ c' 34 2 = c 34 2 ∧ ∃ le x, le ≤ l ∧ x < 96 ∧ m' 0 18 = nI le ∧ c' 34 3 = nI le ∧ m' 0 17 = nI x ∧ c' 35 le = nI x ∧ c' 34 4 = fX9_targetOf (m 1 x) ∧ c' 34 5 = (m' 0 19 ||| (fX9_rightsOf (m 1 x) &&& 8)) ∧ fX9_whatOf (m 1 x) = 2) ∨ ((r = 2 ∨ r = 3) ∧ c' 34 2 = r))) ∧
  (∀ mo, mo ≤ l → 0 < mo → ∃ m' r, fX9_walksNow_b33 f m (nI a) (nI mo) (nI t) (nI l) = some (m', r) ∧ Sm m m' ∧ m' 0 0 = m 0 0 ∧ ((r = 3 ∧ ∃ x, x < 96 ∧ c' 35 mo = nI x ∧ m' 0 17 = nI x ∧ c' 36 mo = m' 0 19 ∧ fX9_whatOf (m 1 x) = 1) ∨ (¬ r = 3 ∧ (c' 35 mo = c 35 mo ∨ ∃ x, x < 96 ∧ c' 35 mo = nI x ∧ ¬ fX9_whatOf (m 1 x) = 1)))) ∧
  (∀ at_, at_ < 96 → (∀ j, j ≤ l → c 35 j = -1) → fX9_passes_b18 f m (nI a) (nI at_) 1 (nI t) (nI l) = some 1 ∧ ∃ r, fX9_passes_b18 f m (nI a) (nI at_) 0 (nI t) (nI l) = some r ∧ ((r = 1 ∧ ∃ j, j ≤ l ∧ c' 35 j = nI at_) ∨ (r = 0 ∧ ∀ j, j ≤ l → ¬ c' 35 j = nI at_)))
theorem gd_lt3 {α : Type} {l : Nat} {k : Option α} (hl : l < 3) : gd (nI l) 3 k = k := gd_nI hl (by decide)
/-- one level of the class's way -/
theorem tr_step {f a l t : Nat} {c m : Mm} {ρ : Int32} (hl : l < 3) (ha : a < 512) (ht : t < 12) (hT : RT c m) : fX8_trace_b38 (f + 1) c (nI a) (nI t) ρ (nI l) = (if fX9_whatOf (m 1 (cAt t a l)) = 0 then some (wr (wr (wr c 35 l (nI (cAt t a l))) 36 l (ρ &&& fX9_rightsOf (m 1 (cAt t a l)))) 34 2 2, ()) else if fX9_whatOf (m 1 (cAt t a l)) = 2 then some (wr (wr (wr (wr (wr c 35 l (nI (cAt t a l))) 36 l (ρ &&& fX9_rightsOf (m 1 (cAt t a l)))) 34 3 (nI l)) 34 4 (fX9_targetOf (m 1 (cAt t a l)))) 34 5 ((ρ &&& fX9_rightsOf (m 1 (cAt t a l))) ||| (fX9_rightsOf (m 1 (cAt t a l)) &&& 8)), ()) else fX8_trace_b38 f (wr (wr c 35 l (nI (cAt t a l))) 36 l (ρ &&& fX9_rightsOf (m 1 (cAt t a l)))) (nI a) (fX9_targetOf (m 1 (cAt t a l))) (ρ &&& fX9_rightsOf (m 1 (cAt t a l))) (nI l + -1)) := by
  have hx : cAt t a l < 96 := cAt_lt ht
  show fX8_trace_b38_s (fX8_trace_b38 f) c (nI a) (nI t) ρ (nI l) = _
  unfold fX8_trace_b38_s fX7_end
  rw [cell_at hl ha]
  simp (disch := omega) only [eq_self, l21, l12, l20, na0, Nat.reduceAdd, wk_eq, lk_eq, lkN_eq, bd_eq, bw_eq, gd_nI, nI_clamp, na1, na2, na3, na4, na5, na6, na7, na8, na9, i192, i234, i276, i326, i332, i338, i96, i0, i8, ge6F, ge6T, ge4F, ge4T, ltz, lez, Nat.one_mul, if_true, if_false, one_ne, one_eq0, zero_eq0, wr0_1, glit320, glit321, glit322, glit323, glit324, glit325, glit344, cl320, cl321, cl322, cl323, cl324, cl325, cl344, (hT _ hx).1]
  rfl
/-- one level of the reference's -/
theorem wn_step {f a l t : Nat} {m : Mm} {mo : Int32} (hl : l < 3) (ha : a < 512) (ht : t < 12) (hmo : ¬ nI l < mo) : fX9_walksNow_b33 (f + 1) m (nI a) mo (nI t) (nI l) = (if fX9_whatOf (m 1 (cAt t a l)) = 1 then fX9_walksNow_b33 f (wr (wr (wr m 0 18 (nI l)) 0 17 (nI (cAt t a l))) 0 19 (m 0 19 &&& fX9_rightsOf (m 1 (cAt t a l)))) (nI a) mo (fX9_targetOf (m 1 (cAt t a l))) (nI l + -1) else if fX9_whatOf (m 1 (cAt t a l)) = 0 then some (wr (wr (wr m 0 18 (nI l)) 0 17 (nI (cAt t a l))) 0 19 (m 0 19 &&& fX9_rightsOf (m 1 (cAt t a l))), 2) else some (wr (wr (wr m 0 18 (nI l)) 0 17 (nI (cAt t a l))) 0 19 (m 0 19 &&& fX9_rightsOf (m 1 (cAt t a l))), 0)) := by
  have hx : cAt t a l < 96 := cAt_lt ht
  show fX9_walksNow_b33_s (fX9_walksNow_b33 f) m (nI a) mo (nI t) (nI l) = _
  unfold fX9_walksNow_b33_s
  rw [place_at hl ha, if_neg hmo]
  simp (disch := omega) only [eq_self, l21, l12, l20, na0, Nat.reduceAdd, wk_eq, lk_eq, lkN_eq, bd_eq, bw_eq, gd_nI, nI_clamp, na1, na2, na3, na4, na5, na6, na7, na8, na9, i192, i234, i276, i326, i332, i338, i96, i0, i8, ge6F, ge6T, ge4F, ge4T, ltz, lez, Nat.one_mul, if_true, if_false, one_ne, one_eq0, zero_eq0, wr0_1, glit320, glit321, glit322, glit323, glit324, glit325, glit344, cl320, cl321, cl322, cl323, cl324, cl325, cl344, wr_same]
  simp (disch := omega) only [wr_i, wr0_1]
theorem ps_step {f a l t at_ : Nat} {m : Mm} {acc : Int32} (hl : l < 3) (ha : a < 512) (ht : t < 12) : fX9_passes_b18 (f + 1) m (nI a) (nI at_) acc (nI t) (nI l) = (if fX9_whatOf (m 1 (cAt t a l)) = 1 then fX9_passes_b18 f m (nI a) (nI at_) (if acc = 0 then (if nI (cAt t a l) = nI at_ then 1 else 0) else 1) (fX9_targetOf (m 1 (cAt t a l))) (nI l + -1) else fX9_passes_b18 f m (nI a) (nI at_) (if acc = 0 then (if nI (cAt t a l) = nI at_ then 1 else 0) else 1) (-1) (nI l + -1)) := by
  have hx : cAt t a l < 96 := cAt_lt ht
  show fX9_passes_b18_s (fX9_passes_b18 f) m (nI a) (nI at_) acc (nI t) (nI l) = _
  unfold fX9_passes_b18_s fX9_passes_b54
  rw [place_at hl ha]
  simp (disch := omega) only [eq_self, l21, l12, l20, na0, Nat.reduceAdd, wk_eq, lk_eq, lkN_eq, bd_eq, bw_eq, gd_nI, nI_clamp, na1, na2, na3, na4, na5, na6, na7, na8, na9, i192, i234, i276, i326, i332, i338, i96, i0, i8, ge6F, ge6T, ge4F, ge4T, ltz, lez, Nat.one_mul, if_true, if_false, one_ne, one_eq0, zero_eq0, wr0_1, glit320, glit321, glit322, glit323, glit324, glit325, glit344, cl320, cl321, cl322, cl323, cl324, cl325, cl344]
  by_cases h0 : acc = 0
  · by_cases h1 : nI (cAt t a l) = nI at_
    · simp only [h0, h1, if_true]
    · simp only [h0, h1, if_true, if_false]
  · simp only [h0, if_false]
theorem ps_end {f : Nat} {m : Mm} {x y z w : Int32} (acc : Int32) (h : acc = 0 ∨ acc = 1) (h2 : z < 0 ∨ w < 0) : fX9_passes_b18 (f + 1) m x y acc z w = some acc := by
  show fX9_passes_b18_s (fX9_passes_b18 f) m x y acc z w = _
  unfold fX9_passes_b18_s
  have hg : gz acc (some acc) = some acc := by rcases h with rfl | rfl <;> rfl
  rw [hg]
  by_cases hw : w < 0
  · rw [if_pos hw]
  · rw [if_neg hw, if_pos (h2.resolve_right hw)]
theorem ps_cg {m m' : Mm} (h : m' 1 = m 1) : ∀ (f : Nat) (x y z w v : Int32), fX9_passes_b18 f m' x y z w v = fX9_passes_b18 f m x y z w v := by
  intro f
  induction f with
  | zero => intros; rfl
  | succ f ih =>
    intro x y z w v
    show fX9_passes_b18_s (fX9_passes_b18 f) m' x y z w v = fX9_passes_b18_s (fX9_passes_b18 f) m x y z w v
    unfold fX9_passes_b18_s fX9_passes_b54
    simp only [h, ih]
theorem wn_z {l : Nat} (hl : l < 3) : ¬ nI l < (0 : Int32) := nI_pos (by omega)
theorem wn_lt0 {l mo : Nat} (h : mo ≤ l) (hl : l < 3) : ¬ nI l < nI mo := nI_nlt h (by omega)
theorem tw_k0 {f a l t : Nat} {c m : Mm} {ρ : Int32} (hl : l < 3) (ha : a < 512) (ht : t < 12) (hT : RT c m) (hk : fX9_whatOf (m 1 (cAt t a l)) = 0) : TWc (f + 2) a l t c m ρ := by
  have hx : cAt t a l < 96 := cAt_lt ht
  refine ⟨wr (wr (wr c 35 l (nI (cAt t a l))) 36 l (ρ &&& fX9_rightsOf (m 1 (cAt t a l)))) 34 2 2, ?_, ?_, ?_, ?_, ?_, ?_, ?_⟩
  · rw [tr_step hl ha ht hT, if_pos hk]
  · exact ((Sc.wr _ _ _ rfl).tr (Sc.wr _ _ _ rfl)).tr (Sc.wr _ _ _ rfl)
  · intro j hj
    simp (disch := omega) only [wr_same, wr_i, wr_b]
    exact ⟨trivial, trivial⟩
  · intro j hj
    by_cases h : j = l
    · subst h
      right
      exact ⟨_, hx, by simp (disch := omega) only [wr_same, wr_i, wr_b]⟩
    · left
      simp (disch := omega) only [wr_same, wr_i, wr_b]
  · refine ⟨_, 2, by rw [wn_step hl ha ht (wn_z hl), hk, if_neg (by decide), if_pos rfl], ?_, ?_, Or.inr ⟨Or.inl rfl, by simp (disch := omega) only [wr_same, wr_i, wr_b]⟩⟩
    · exact ((Sm.wr0 _ _ (by decide)).tr (Sm.wr0 _ _ (by decide))).tr (Sm.wr0 _ _ (by decide))
    · simp (disch := omega) only [wr_same, wr_i, wr_b]
  · intro mo hmo h0
    refine ⟨_, 2, by rw [wn_step hl ha ht (wn_lt0 hmo hl), hk, if_neg (by decide), if_pos rfl], ?_, ?_, Or.inr ⟨by decide, ?_⟩⟩
    · exact ((Sm.wr0 _ _ (by decide)).tr (Sm.wr0 _ _ (by decide))).tr (Sm.wr0 _ _ (by decide))
    · simp (disch := omega) only [wr_same, wr_i, wr_b]
    · by_cases h : mo = l
      · subst h
        right
        exact ⟨_, hx, by simp (disch := omega) only [wr_same, wr_i, wr_b], by rw [hk]; decide⟩
      · left
        simp (disch := omega) only [wr_same, wr_i, wr_b]
  · intro y hy hc
    refine ⟨?_, ?_⟩
    · rw [ps_step hl ha ht, hk, if_neg (by decide), if_neg (by decide), ps_end _ (Or.inr rfl) (Or.inl (by decide))]
    · by_cases e : nI (cAt t a l) = nI y
      · refine ⟨1, by rw [ps_step hl ha ht, hk, if_neg (by decide), if_pos rfl, if_pos e, ps_end _ (Or.inr rfl) (Or.inl (by decide))], Or.inl ⟨rfl, l, Nat.le_refl _, by simp (disch := omega) only [wr_same, wr_i, wr_b]; exact e⟩⟩
      · refine ⟨0, by rw [ps_step hl ha ht, hk, if_neg (by decide), if_pos rfl, if_neg e, ps_end _ (Or.inl rfl) (Or.inl (by decide))], Or.inr ⟨rfl, fun j hj => ?_⟩⟩
        by_cases h : j = l
        · subst h
          simp (disch := omega) only [wr_same, wr_i, wr_b]
          exact e
        · simp (disch := omega) only [wr_same, wr_i, wr_b]
          rw [hc j hj]
          intro e2
          exact nI_pos (show y < 2 ^ 31 by omega) (by rw [← e2]; decide)
theorem tw_k2 {f a l t : Nat} {c m : Mm} {ρ : Int32} (hl : l < 3) (ha : a < 512) (ht : t < 12) (hT : RT c m) (hρ : m 0 19 = ρ) (hk : fX9_whatOf (m 1 (cAt t a l)) = 2) : TWc (f + 2) a l t c m ρ := by
  have hx : cAt t a l < 96 := cAt_lt ht
  refine ⟨_, by rw [tr_step hl ha ht hT, hk, if_neg (by decide), if_pos rfl], ?_, ?_, ?_, ?_, ?_, ?_⟩
  · exact ((((Sc.wr _ _ _ rfl).tr (Sc.wr _ _ _ rfl)).tr (Sc.wr _ _ _ rfl)).tr (Sc.wr _ _ _ rfl)).tr (Sc.wr _ _ _ rfl)
  · intro j hj
    simp (disch := omega) only [wr_same, wr_i, wr_b]
    exact ⟨trivial, trivial⟩
  · intro j hj
    by_cases h : j = l
    · subst h
      right
      exact ⟨_, hx, by simp (disch := omega) only [wr_same, wr_i, wr_b]⟩
    · left
      simp (disch := omega) only [wr_same, wr_i, wr_b]
  · refine ⟨_, 0, by rw [wn_step hl ha ht (wn_z hl), hk, if_neg (by decide), if_neg (by decide)], ?_, ?_, Or.inl ⟨rfl, by simp (disch := omega) only [wr_same, wr_i, wr_b], l, cAt t a l, Nat.le_refl _, hx, by simp (disch := omega) only [wr_same, wr_i, wr_b], by simp (disch := omega) only [wr_same, wr_i, wr_b], by simp (disch := omega) only [wr_same, wr_i, wr_b], by simp (disch := omega) only [wr_same, wr_i, wr_b], by simp (disch := omega) only [wr_same, wr_i, wr_b], by simp (disch := omega) only [wr_same, wr_i, wr_b, hρ], hk⟩⟩
    · exact ((Sm.wr0 _ _ (by decide)).tr (Sm.wr0 _ _ (by decide))).tr (Sm.wr0 _ _ (by decide))
    · simp (disch := omega) only [wr_same, wr_i, wr_b]
  · intro mo hmo h0
    refine ⟨_, 0, by rw [wn_step hl ha ht (wn_lt0 hmo hl), hk, if_neg (by decide), if_neg (by decide)], ?_, ?_, Or.inr ⟨by decide, ?_⟩⟩
    · exact ((Sm.wr0 _ _ (by decide)).tr (Sm.wr0 _ _ (by decide))).tr (Sm.wr0 _ _ (by decide))
    · simp (disch := omega) only [wr_same, wr_i, wr_b]
    · by_cases h : mo = l
      · subst h
        right
        exact ⟨_, hx, by simp (disch := omega) only [wr_same, wr_i, wr_b], by rw [hk]; decide⟩
      · left
        simp (disch := omega) only [wr_same, wr_i, wr_b]
  · intro y hy hc
    refine ⟨?_, ?_⟩
    · rw [ps_step hl ha ht, hk, if_neg (by decide), if_neg (by decide), ps_end _ (Or.inr rfl) (Or.inl (by decide))]
    · by_cases e : nI (cAt t a l) = nI y
      · refine ⟨1, by rw [ps_step hl ha ht, hk, if_neg (by decide), if_pos rfl, if_pos e, ps_end _ (Or.inr rfl) (Or.inl (by decide))], Or.inl ⟨rfl, l, Nat.le_refl _, by simp (disch := omega) only [wr_same, wr_i, wr_b]; exact e⟩⟩
      · refine ⟨0, by rw [ps_step hl ha ht, hk, if_neg (by decide), if_pos rfl, if_neg e, ps_end _ (Or.inl rfl) (Or.inl (by decide))], Or.inr ⟨rfl, fun j hj => ?_⟩⟩
        by_cases h : j = l
        · subst h
          simp (disch := omega) only [wr_same, wr_i, wr_b]
          exact e
        · simp (disch := omega) only [wr_same, wr_i, wr_b]
          rw [hc j hj]
          intro e2
          exact nI_pos (show y < 2 ^ 31 by omega) (by rw [← e2]; decide)
theorem m1_0 : nI 0 + -1 = -1 := by decide
theorem tw_k1_0 {f a t : Nat} {c m : Mm} {ρ : Int32} (ha : a < 512) (ht : t < 12) (hT : RT c m) (hk : fX9_whatOf (m 1 (cAt t a 0)) = 1) : TWc (f + 2) a 0 t c m ρ := by
  have hx : cAt t a 0 < 96 := cAt_lt ht
  have tr1 : ∀ (f : Nat) (c : Mm) (x y z : Int32), fX8_trace_b38 (f + 1) c x y z (-1) = some (wr c 34 2 3, ()) := fun _ _ _ _ _ => rfl
  have wn1 : ∀ (f : Nat) (m : Mm) (x y : Int32), fX9_walksNow_b33 (f + 1) m x 0 y (-1) = some (m, 3) := fun _ _ _ _ => rfl
  refine ⟨_, by rw [tr_step (by decide) ha ht hT, hk, if_neg (by decide), if_neg (by decide), m1_0, tr1], ?_, ?_, ?_, ?_, ?_, ?_⟩
  · exact ((Sc.wr _ _ _ rfl).tr (Sc.wr _ _ _ rfl)).tr (Sc.wr _ _ _ rfl)
  · intro j hj
    simp (disch := omega) only [wr_same, wr_i, wr_b]
    exact ⟨trivial, trivial⟩
  · intro j hj
    have h : j = 0 := by omega
    subst h
    right
    exact ⟨_, hx, by simp (disch := omega) only [wr_same, wr_i, wr_b]⟩
  · refine ⟨_, 3, by rw [wn_step (by decide) ha ht (by decide), hk, if_pos rfl, m1_0, wn1], ?_, ?_, Or.inr ⟨Or.inr rfl, by simp (disch := omega) only [wr_same, wr_i, wr_b]⟩⟩
    · exact ((Sm.wr0 _ _ (by decide)).tr (Sm.wr0 _ _ (by decide))).tr (Sm.wr0 _ _ (by decide))
    · simp (disch := omega) only [wr_same, wr_i, wr_b]
  · intro mo hmo h0
    omega
  · intro y hy hc
    refine ⟨?_, ?_⟩
    · rw [ps_step (by decide) ha ht, hk, if_pos rfl, if_neg (by decide), m1_0, ps_end _ (Or.inr rfl) (Or.inr (by decide))]
    · by_cases e : nI (cAt t a 0) = nI y
      · refine ⟨1, by rw [ps_step (by decide) ha ht, hk, if_pos rfl, if_pos rfl, if_pos e, m1_0, ps_end _ (Or.inr rfl) (Or.inr (by decide))], Or.inl ⟨rfl, 0, Nat.le_refl _, by simp (disch := omega) only [wr_same, wr_i, wr_b]; exact e⟩⟩
      · refine ⟨0, by rw [ps_step (by decide) ha ht, hk, if_pos rfl, if_pos rfl, if_neg e, m1_0, ps_end _ (Or.inl rfl) (Or.inr (by decide))], Or.inr ⟨rfl, fun j hj => ?_⟩⟩
        have h : j = 0 := by omega
        subst h
        simp (disch := omega) only [wr_same, wr_i, wr_b]
        exact e
theorem tw_k1_s {f a l t : Nat} {c m : Mm} {ρ : Int32} (hl : l + 1 < 3) (ha : a < 512) (ht : t < 12) (hT : RT c m) (hρ : m 0 19 = ρ) (hk : fX9_whatOf (m 1 (cAt t a (l + 1))) = 1) {u : Nat} (hu : u < 12) (hg : fX9_targetOf (m 1 (cAt t a (l + 1))) = nI u)
  (ih : ∀ (c m : Mm) (ρ : Int32), RT c m → m 0 19 = ρ → TWc f a l u c m ρ) : TWc (f + 1) a (l + 1) t c m ρ := by
  have hx : cAt t a (l + 1) < 96 := cAt_lt ht
  obtain ⟨c', i1, i2, i3, i4, ⟨m', r, i5, i6, i7, i8⟩, i9, i10⟩ := ih (wr (wr c 35 (l + 1) (nI (cAt t a (l + 1)))) 36 (l + 1) (ρ &&& fX9_rightsOf (m 1 (cAt t a (l + 1))))) (wr (wr (wr m 0 18 (nI (l + 1))) 0 17 (nI (cAt t a (l + 1)))) 0 19 (m 0 19 &&& fX9_rightsOf (m 1 (cAt t a (l + 1))))) (ρ &&& fX9_rightsOf (m 1 (cAt t a (l + 1)))) (hT.cg (by rw [wr_ne _ _ _ (by decide), wr_ne _ _ _ (by decide)]) (by rw [wr_ne _ _ _ (by decide), wr_ne _ _ _ (by decide)]) (((Ea.rf.wb (by decide)).wb (by decide)).wb (by decide))) (by rw [wr_same, hρ])
  have S : Sm m (wr (wr (wr m 0 18 (nI (l + 1))) 0 17 (nI (cAt t a (l + 1)))) 0 19 (m 0 19 &&& fX9_rightsOf (m 1 (cAt t a (l + 1))))) := ((Sm.wr0 _ _ (by decide)).tr (Sm.wr0 _ _ (by decide))).tr (Sm.wr0 _ _ (by decide))
  have z1 : wr (wr (wr m 0 18 (nI (l + 1))) 0 17 (nI (cAt t a (l + 1)))) 0 19 (m 0 19 &&& fX9_rightsOf (m 1 (cAt t a (l + 1)))) 1 = m 1 := S.1
  have z0 : wr (wr (wr m 0 18 (nI (l + 1))) 0 17 (nI (cAt t a (l + 1)))) 0 19 (m 0 19 &&& fX9_rightsOf (m 1 (cAt t a (l + 1)))) 0 0 = m 0 0 := by simp (disch := omega) only [wr_same, wr_i, wr_b]
  rw [z1] at i8
  have top : c' 35 (l + 1) = nI (cAt t a (l + 1)) := by
    rw [(i3 (l + 1) (by omega)).1]
    simp (disch := omega) only [wr_same, wr_i, wr_b]
  have top2 : c' 36 (l + 1) = ρ &&& fX9_rightsOf (m 1 (cAt t a (l + 1))) := by
    rw [(i3 (l + 1) (by omega)).2]
    simp (disch := omega) only [wr_same, wr_i, wr_b]
  have low : ∀ j, j ≤ l → wr (wr c 35 (l + 1) (nI (cAt t a (l + 1)))) 36 (l + 1) (ρ &&& fX9_rightsOf (m 1 (cAt t a (l + 1)))) 35 j = c 35 j := fun j hj => by simp (disch := omega) only [wr_same, wr_i, wr_b]
  refine ⟨c', by rw [tr_step hl ha ht hT, hk, if_neg (by decide), if_neg (by decide), hg, pk_m1]; exact i1, ((Sc.wr _ _ _ rfl).tr (Sc.wr _ _ _ rfl)).tr i2, ?_, ?_, ?_, ?_, ?_⟩
  · intro j hj
    obtain ⟨e1, e2⟩ := i3 j (by omega)
    rw [e1, e2]
    simp (disch := omega) only [wr_same, wr_i, wr_b]
    exact ⟨trivial, trivial⟩
  · intro j hj
    by_cases h : j = l + 1
    · subst h
      exact Or.inr ⟨_, hx, top⟩
    · rcases i4 j (by omega) with e | e
      · left
        rw [e, low j (by omega)]
      · exact Or.inr e
  · refine ⟨m', r, by rw [wn_step hl ha ht (wn_z hl), hk, if_pos rfl, hg, pk_m1]; exact i5, S.tr i6, by rw [i7, z0], ?_⟩
    rcases i8 with ⟨e1, e2, le, x, e3, e4⟩ | e
    · exact Or.inl ⟨e1, by rw [e2]; simp (disch := omega) only [wr_same, wr_i, wr_b], le, x, by omega, e4⟩
    · exact Or.inr e
  · intro mo hmo h0
    by_cases h : mo = l + 1
    · subst h
      have wn1 : ∀ (m : Mm), fX9_walksNow_b33 f m (nI a) (nI (l + 1)) (nI u) (nI l) = some (m, 3) := fun m => by
        obtain ⟨g, rfl⟩ : ∃ g, f = g + 1 := by
          cases f with
          | zero => cases i1
          | succ g => exact ⟨g, rfl⟩
        show fX9_walksNow_b33_s (fX9_walksNow_b33 g) m (nI a) (nI (l + 1)) (nI u) (nI l) = _
        unfold fX9_walksNow_b33_s
        rw [if_pos (nI_lt (by omega) (by omega))]
      refine ⟨_, 3, by rw [wn_step hl ha ht (wn_lt0 (Nat.le_refl _) hl), hk, if_pos rfl, hg, pk_m1, wn1], S, z0, Or.inl ⟨rfl, _, hx, top, by simp (disch := omega) only [wr_same, wr_i, wr_b], ?_, hk⟩⟩
      rw [top2, wr_same, hρ]
    · obtain ⟨m'', r'', j1, j2, j3, j4⟩ := i9 mo (by omega) h0
      refine ⟨m'', r'', by rw [wn_step hl ha ht (wn_lt0 hmo hl), hk, if_pos rfl, hg, pk_m1]; exact j1, S.tr j2, by rw [j3, z0], ?_⟩
      rw [z1] at j4
      rw [low mo (by omega)] at j4
      exact j4
  · intro y hy hc
    obtain ⟨p1, r', p2, p3⟩ := i10 y hy (fun j hj => by rw [low j hj]; exact hc j (by omega))
    have pm : ∀ acc, fX9_passes_b18 f (wr (wr (wr m 0 18 (nI (l + 1))) 0 17 (nI (cAt t a (l + 1)))) 0 19 (m 0 19 &&& fX9_rightsOf (m 1 (cAt t a (l + 1))))) (nI a) (nI y) acc (nI u) (nI l) = fX9_passes_b18 f m (nI a) (nI y) acc (nI u) (nI l) := fun acc => ps_cg z1 f _ _ _ _ _
    rw [pm] at p1 p2
    refine ⟨?_, ?_⟩
    · rw [ps_step hl ha ht, hk, if_pos rfl, if_neg (by decide), hg, pk_m1]; exact p1
    · by_cases e : nI (cAt t a (l + 1)) = nI y
      · refine ⟨1, by rw [ps_step hl ha ht, hk, if_pos rfl, if_pos rfl, if_pos e, hg, pk_m1]; exact p1, Or.inl ⟨rfl, l + 1, Nat.le_refl _, by rw [top]; exact e⟩⟩
      · refine ⟨r', by rw [ps_step hl ha ht, hk, if_pos rfl, if_pos rfl, if_neg e, hg, pk_m1]; exact p2, ?_⟩
        rcases p3 with ⟨e1, j, hj, e2⟩ | ⟨e1, e2⟩
        · exact Or.inl ⟨e1, j, by omega, e2⟩
        · refine Or.inr ⟨e1, fun j hj => ?_⟩
          by_cases h : j = l + 1
          · subst h
            rw [top]; exact e
          · exact e2 j (by omega)
theorem tw_all {a : Nat} (ha : a < 512) : ∀ l, l < 3 → ∀ (f t : Nat) (c m : Mm) (ρ : Int32), l + 2 ≤ f → t < 12 → RT c m → m 0 19 = ρ → TWc f a l t c m ρ := by
  intro l
  induction l with
  | zero =>
    intro hl f t c m ρ hf ht hT hρ
    obtain ⟨g, rfl⟩ : ∃ g, f = g + 2 := ⟨f - 2, by omega⟩
    rcases Vc.parts (hT _ (cAt_lt (a := a) (l := 0) ht)).2.2.1 with ⟨k, -⟩ | ⟨k, -⟩ | ⟨k, -⟩
    · exact tw_k0 hl ha ht hT k
    · exact tw_k1_0 ha ht hT k
    · exact tw_k2 hl ha ht hT hρ k
  | succ l ih =>
    intro hl f t c m ρ hf ht hT hρ
    obtain ⟨g, rfl⟩ : ∃ g, f = g + 2 := ⟨f - 2, by omega⟩
    rcases Vc.parts (hT _ (cAt_lt (a := a) (l := l + 1) ht)).2.2.1 with ⟨k, -⟩ | ⟨k, ⟨u, hu, hg⟩, -⟩ | ⟨k, -⟩
    · exact tw_k0 hl ha ht hT k
    · exact tw_k1_s hl ha ht hT hρ k hu hg (fun c m ρ hT hρ => ih (by omega) (g + 1) u c m ρ (by omega) hu hT hρ)
    · exact tw_k2 hl ha ht hT hρ k
