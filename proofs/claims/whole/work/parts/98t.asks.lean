/-! PURE: the reference clears what fits and does not serve, one after the other -/
theorem cnt_le {p q : Nat → Bool} : ∀ n, (∀ j, j < n → q j = true → p j = true) → fa_cnt q n ≤ fa_cnt p n
  | 0, _ => Nat.le_refl _
  | n + 1, h => by
    have ih := cnt_le n (fun j hj => h j (by omega))
    have := h n (by omega)
    unfold fa_cnt
    by_cases hq : q n = true
    · rw [if_pos hq, if_pos (this hq)]; omega
    · rw [if_neg hq]; omega
theorem cnt_lt {p q : Nat → Bool} {k : Nat} : ∀ n, (∀ j, j < n → q j = true → p j = true) → k < n → p k = true → q k = false → fa_cnt q n < fa_cnt p n
  | 0, _, hk, _, _ => absurd hk (Nat.not_lt_zero _)
  | n + 1, h, hk, h1, h2 => by
    unfold fa_cnt
    by_cases e : k = n
    · subst e
      have := cnt_le k (fun j hj => h j (by omega))
      rw [if_pos h1, if_neg (by rw [h2]; decide)]; omega
    · have ih := cnt_lt n (fun j hj => h j (by omega)) (show k < n by omega) h1 h2
      have := h n (by omega)
      by_cases hq : q n = true
      · rw [if_pos hq, if_pos (this hq)]; omega
      · rw [if_neg hq]; omega
theorem dM_ext {a : Nat} {P Q : Nat → Bool} {m : Mm} (h : ∀ j, j < 6 → P j = Q j) : dM a P 6 m = dM a Q 6 m := by
  funext b i
  unfold dM
  by_cases h1 : b = 1 ∧ a ≤ i ∧ i < a + 7 * 6 ∧ (i - a) % 7 = 0
  · have e := h ((i - a) / 7) (by omega)
    rw [e]
  · rw [if_neg (fun z => h1 ⟨z.1, z.2.1, z.2.2.1, z.2.2.2.1⟩), if_neg (fun z => h1 ⟨z.1, z.2.1, z.2.2.1, z.2.2.2.1⟩)]
theorem dM_more {a k : Nat} {P Q : Nat → Bool} {m : Mm} (hk : k < 6) (hq : ∀ j, j < 6 → Q j = (P j || decide (j = k))) : wr (dM a P 6 m) 1 (a + 7 * k) (-1) = dM a Q 6 m := by
  funext b i
  by_cases e : b = 1 ∧ i = a + 7 * k
  · obtain ⟨rfl, rfl⟩ := e
    rw [wr_same, dM_at hk, if_pos]
    rw [hq k hk]
    simp
  · have ew : wr (dM a P 6 m) 1 (a + 7 * k) (-1) b i = dM a P 6 m b i := by
      by_cases e1 : b = 1
      · subst e1
        exact wr_i _ _ _ (fun z => e ⟨rfl, z⟩)
      · exact wr_b _ _ _ _ e1
    rw [ew]
    unfold dM
    by_cases h1 : b = 1 ∧ a ≤ i ∧ i < a + 7 * 6 ∧ (i - a) % 7 = 0
    · have hne : (i - a) / 7 ≠ k := fun z => e ⟨h1.1, by omega⟩
      have e2 : Q ((i - a) / 7) = P ((i - a) / 7) := by
        rw [hq _ (by omega), decide_eq_false hne, Bool.or_false]
      rw [e2]
    · rw [if_neg (fun z => h1 ⟨z.1, z.2.1, z.2.2.1, z.2.2.2.1⟩), if_neg (fun z => h1 ⟨z.1, z.2.1, z.2.2.1, z.2.2.2.1⟩)]
theorem fit_dM {a tg k : Nat} {S : Nat → Bool} {m : Mm} (hk : k < 6) : Fit a tg k (dM 192 S 6 m) ↔ (Fit a tg k m ∧ S k = false) := by
  unfold Fit
  rw [dM_at hk, dM_i (by decide) (by decide), dM_i (by decide) (by decide), dM_i (by decide) (by decide)]
  by_cases h : S k = true
  · rw [if_pos h, h]
    exact ⟨fun z => absurd rfl z.1.1, fun z => absurd z.2 (by decide)⟩
  · rw [if_neg h]
    exact ⟨fun z => ⟨z, Bool.eq_false_iff.mpr h⟩, fun z => z.1⟩
theorem ok_dM {k : Nat} {S : Nat → Bool} {m : Mm} (hk : k < 6) (h : PlOk m (192 + 7 * k)) : PlOk (dM 192 S 6 m) (192 + 7 * k) := by
  by_cases hs : S k = true
  · left
    rw [dM_at hk, if_pos hs]
  · exact h.cg (by rw [dM_at hk, if_neg hs]) (dM_i (by decide) (by decide)) (dM_i (by decide) (by decide))
theorem srv_b23 {m : Mm} {a wa k : Nat} (hk : k < 6) (K : Mm → Int32 → Int32 → Int32 → Option (Mm × Int32)) : (Srv wa k m ∧ fX9_asks_b23_s K m (nI a) (nI wa) (nI (192 + 7 * k)) = fX9_asks_b60 m (nI a) (nI (192 + 7 * k))) ∨ (¬ Srv wa k m ∧ fX9_asks_b23_s K m (nI a) (nI wa) (nI (192 + 7 * k)) = fX9_asks_b100 K m (nI a) (nI wa) (nI (192 + 7 * k))) := by
  unfold fX9_asks_b23_s Srv
  rw [if_neg (nI_pos (by omega)), na4, na5, gd_nI (by omega) (by decide), gd_nI (by omega) (by decide), nI_clamp (by omega), nI_clamp (by omega)]
  by_cases h1 : nI wa &&& (m 1 (192 + 7 * k + 4) ^^^ -1) = 0
  · rw [if_pos h1]
    by_cases h2 : nI wa &&& 1 = 0
    · rw [if_pos h2]
      exact Or.inl ⟨⟨h1, Or.inl h2⟩, rfl⟩
    · rw [if_neg h2]
      by_cases h3 : m 1 (192 + 7 * k + 5) = 1
      · rw [if_pos h3]
        exact Or.inl ⟨⟨h1, Or.inr h3⟩, rfl⟩
      · rw [if_neg h3]
        exact Or.inr ⟨fun z => z.2.elim h2 h3, rfl⟩
  · rw [if_neg h1]
    exact Or.inr ⟨fun z => h1 z.1, rfl⟩
theorem srv_dM {wa k : Nat} {S : Nat → Bool} {m : Mm} : Srv wa k (dM 192 S 6 m) ↔ Srv wa k m := by
  unfold Srv
  rw [dM_i (by decide) (by decide), dM_i (by decide) (by decide)]
theorem asks_lp {m : Mm} {a wa tg s : Nat} {F : Nat → Bool} (ha : a < 512) (hP : ∀ k, k < 6 → PlOk m (192 + 7 * k)) (hs : s < 6) (hcur : m 1 344 = nI s) (ht : m 1 (332 + s) = nI tg) (hF : ∀ k, k < 6 → (F k = true ↔ Fit a tg k m)) (hU : ∀ i j, i < 6 → j < 6 → Fit a tg i m → Fit a tg j m → m 1 (192 + 7 * i + 6) ≤ m 1 (192 + 7 * j + 6) → m 1 (192 + 7 * j + 6) ≤ m 1 (192 + 7 * i + 6) → i = j) : ∀ fu (S : Nat → Bool), fa_cnt (fun j => F j && !S j) 6 < fu → (∀ j, j < 6 → S j = true → Fit a tg j m ∧ ¬ Srv wa j m) → (∀ i j, i < 6 → j < 6 → Fit a tg i m → S i = false → S j = true → m 1 (192 + 7 * i + 6) ≤ m 1 (192 + 7 * j + 6)) →
    ∃ r, fX9_latestThatFits (dM 192 S 6 m) (nI a) = some r ∧
      ((∀ j, j < 6 → Fit a tg j m → ¬ Srv wa j m) → fX9_asks_b23 fu (dM 192 S 6 m) (nI a) (nI wa) r = fX9_asks_b23_s (fun _ _ _ _ => none) (dM 192 F 6 m) (nI a) (nI wa) (-1)) ∧
      (∀ k, k < 6 → Fit a tg k m → Srv wa k m → (∀ j, j < 6 → Fit a tg j m → Srv wa j m → m 1 (192 + 7 * j + 6) ≤ m 1 (192 + 7 * k + 6)) → ∀ P : Nat → Bool, (∀ j, j < 6 → (P j = true ↔ (Fit a tg j m ∧ ¬ m 1 (192 + 7 * j + 6) ≤ m 1 (192 + 7 * k + 6)))) → fX9_asks_b23 fu (dM 192 S 6 m) (nI a) (nI wa) r = fX9_asks_b60 (dM 192 P 6 m) (nI a) (nI (192 + 7 * k))) := by
  intro fu
  induction fu with
  | zero => intro S h; exact absurd h (Nat.not_lt_zero _)
  | succ g ih =>
    intro S hc h1 h2
    have L : ∀ r, fX9_asks_b23 (g + 1) (dM 192 S 6 m) (nI a) (nI wa) r = fX9_asks_b23_s (fX9_asks_b23 g) (dM 192 S 6 m) (nI a) (nI wa) r := fun r => rfl
    have bf : ∀ b : Bool, ¬ b = true → b = false := fun b h => Bool.eq_false_iff.mpr h
    rcases latest_m (m := dM 192 S 6 m) (tg := tg) ha (fun k hk => ok_dM hk (hP k hk)) hs (by rw [dM_out (by omega)]; exact hcur) (by rw [dM_out (by omega)]; exact ht) with ⟨e1, e2⟩ | ⟨k, hk, e1, e2, e3⟩
    · refine ⟨-1, e1, fun _ => ?_, fun k hk fk sk _ P hPP => ?_⟩
      · have es : dM 192 S 6 m = dM 192 F 6 m := dM_ext (fun j hj => by
          by_cases hsj : S j = true
          · rw [hsj, (hF j hj).mpr (h1 j hj hsj).1]
          · have : ¬ F j = true := fun z => e2 j hj ((fit_dM hj).mpr ⟨(hF j hj).mp z, bf _ hsj⟩)
            rw [bf _ hsj, bf _ this])
        rw [L, es]
        unfold fX9_asks_b23_s
        rw [if_pos (by decide), if_pos (by decide)]
      · have hsk : S k = false := bf _ (fun z => (h1 k hk z).2 sk)
        exact absurd ((fit_dM hk).mpr ⟨fk, hsk⟩) (e2 k hk)
    · obtain ⟨fk, sk⟩ := (fit_dM hk).mp e2
      have mx : ∀ j, j < 6 → Fit a tg j m → S j = false → m 1 (192 + 7 * j + 6) ≤ m 1 (192 + 7 * k + 6) := fun j hj hf hsj => by
        have := e3 j hj ((fit_dM hj).mpr ⟨hf, hsj⟩)
        rw [dM_i (by decide) (by decide), dM_i (by decide) (by decide)] at this
        exact this
      refine ⟨_, e1, ?_⟩
      rw [L]
      rcases srv_b23 (m := dM 192 S 6 m) (a := a) (wa := wa) hk (fX9_asks_b23 g) with ⟨v1, v2⟩ | ⟨v1, v2⟩
      · rw [srv_dM] at v1
        refine ⟨fun h => absurd v1 (h k hk fk), fun k' hk' fk' sk' mx' P hPP => ?_⟩
        have sk2 : S k' = false := bf _ (fun z => (h1 k' hk' z).2 sk')
        have ek : k = k' := hU k k' hk hk' fk fk' (mx' k hk fk v1) (mx k' hk' fk' sk2)
        subst ek
        have es : dM 192 S 6 m = dM 192 P 6 m := dM_ext (fun j hj => by
          by_cases hsj : S j = true
          · have fj := (h1 j hj hsj).1
            rw [hsj, (hPP j hj).mpr ⟨fj, fun z => by
              have : j = k := hU j k hj hk fj fk z (h2 k j hk hj fk sk hsj)
              subst this
              rw [hsj] at sk; cases sk⟩]
          · rw [bf _ hsj, bf _ (fun z => ((hPP j hj).mp z).2 (mx j hj ((hPP j hj).mp z).1 (bf _ hsj)))])
        rw [v2, es]
      · rw [srv_dM] at v1
        rw [v2]
        unfold fX9_asks_b100
        have hS' : ∀ j, j < 6 → (fun j => S j || decide (j = k)) j = (S j || decide (j = k)) := fun j _ => rfl
        rw [gd_nI (by omega) (by decide), wk_eq, nI_clamp (by omega), dM_more hk hS']
        generalize (fun j => S j || decide (j = k)) = S' at hS'
        have sk' : S' k = true := by rw [hS' k hk]; simp
        have sj' : ∀ j, j < 6 → j ≠ k → S' j = S j := fun j hj hjk => by rw [hS' j hj, decide_eq_false hjk, Bool.or_false]
        obtain ⟨r, r1, r2, r3⟩ := ih S' (Nat.lt_of_lt_of_le (cnt_lt (k := k) 6 (fun j hj h => by
          by_cases e : j = k
          · subst e
            rw [sk'] at h
            simp at h
          · rw [sj' j hj e] at h; exact h) hk (by
          show (F k && !S k) = true
          rw [(hF k hk).mpr fk, sk]; rfl) (by
          show (F k && !S' k) = false
          rw [sk']; simp)) (Nat.le_of_lt_succ hc)) (fun j hj h => by
          by_cases e : j = k
          · subst e; exact ⟨fk, v1⟩
          · rw [sj' j hj e] at h; exact h1 j hj h) (fun i j hi hj fi si sj => by
          have ik : i ≠ k := fun z => by subst z; rw [sk'] at si; cases si
          rw [sj' i hi ik] at si
          by_cases e : j = k
          · subst e; exact mx i hi fi si
          · rw [sj' j hj e] at sj; exact h2 i j hi hj fi si sj)
        rw [r1, bd_eq]
        exact ⟨r2, r3⟩
