/-! PURE: permitted, many -/
theorem ev_of {n cap : Nat} {c m : Mm} (hr : Rel n cap c m) (hn : n < 512) : ∃ q base, Ev m q base ∧ Cv c m q base := by
  obtain ⟨q1, q2, q3, q4, q5, q6, q7, q8, q9, q10, q11⟩ := hr
  obtain ⟨t, t1, t2, t3, t4, t5⟩ := q9
  refine ⟨min t 40, t - min t 40, ⟨⟨by omega, by omega, t4, fun j hj => (t5 j hj).2.2.1⟩, fun σ i v hi hv => ?_, fun σ s v hs hv => ?_⟩, by rw [t2]; congr 1; omega, by omega, by omega, fun j hj => ⟨(t5 j hj).1.symm, (t5 j hj).2.1.symm⟩, fun i hi => (q1 i hi).1, fun s hs => (q2.1 s hs).1⟩
  · rcases hv with rfl | ⟨j, j1, j2, j3, rfl⟩
    · exact (q1 i hi).2.2.1
    · rcases (t5 j j1).2.2.2 with ⟨i', -, -, h⟩ | ⟨s, hs, e, -⟩
      · exact h
      · rw [j3] at e
        have := nI_inj (by omega) (by omega) e
        omega
  · rcases hv with rfl | ⟨j, j1, j2, j3, rfl⟩
    · exact (q2.1 s hs).2.2.1
    · rcases (t5 j j1).2.2.2 with ⟨i', hi', e, -⟩ | ⟨s', -, -, h⟩
      · rw [j3] at e
        have := nI_inj (by omega) (by omega) e
        omega
      · exact h
theorem lat_eq (a b : Int32) : (if a < b then b else a) = fX9_later a b := by
  unfold fX9_later
  by_cases h : a < b
  · rw [if_pos h, if_pos (fa_of_lt h).1]
  · rw [if_neg h]
    by_cases e : a ≤ b
    · rw [if_pos e]
      rw [fa_lt] at h
      rw [fa_le] at e
      exact (fa_eq a b).mpr (by omega)
    · rw [if_neg e]
theorem later_n {x y : Nat} (hx : x < 2 ^ 31) (hy : y < 2 ^ 31) : fX9_later (nI x) (nI y) = nI (max x y) := by
  unfold fX9_later
  by_cases h : x ≤ y
  · rw [if_pos (nI_le h hy), Nat.max_eq_right h]
  · rw [if_neg (nI_ge (by omega) hx), Nat.max_eq_left (by omega)]
theorem latest_sp {n cap s a : Nat} {c m : Mm} (hF : RF n cap c m) (hn : n < 512) (hs : s < 6) (ha : a < 512) : ∃ σ τ, σ ≤ 600 ∧ τ ≤ 600 ∧ fX9_later (m 0 8) (fX9_later (m 6 s) (m 7 (512 * s + a))) = nI σ ∧ m 0 8 = nI τ ∧ c 40 1 = nI τ ∧ ∀ c', (∀ b, b ≠ 45 → c' b = c b) → fX1_latest cap c' (nI s) (nI a) = some (nI σ) := by
  obtain ⟨r1, ⟨τ, hτ, e8⟩, r3, r4, k, r5, r6, r7, r8, r9, r10⟩ := hF
  obtain ⟨e41, y, hy, e6⟩ := r3 s hs
  have hcap : cap ≤ 512 := by omega
  obtain ⟨z, hz, e7⟩ : ∃ z, z < n + 1 ∧ m 7 (512 * s + a) = nI z := by
    rcases r10 (512 * s + a) (by omega) with ⟨j, hj, -, e⟩ | ⟨-, e⟩
    · obtain ⟨z, hz, ez⟩ := (r8 j hj).2
      exact ⟨z, hz, by rw [e, ez]⟩
    · exact ⟨0, by omega, e⟩
  have eσ : fX9_later (m 0 8) (fX9_later (m 6 s) (m 7 (512 * s + a))) = nI (max τ (max y z)) := by
    rw [e8, e6, e7, later_n (by omega) (by omega), later_n (by omega) (by omega)]
  refine ⟨max τ (max y z), τ, by omega, by omega, eσ, e8, by rw [r1, e8], fun c' hc' => ?_⟩
  rw [← eσ]
  have iz : nI s * (512 : Int32) + nI a = nI (512 * s + a) := by
    rw [show (512 : Int32) = nI 512 from rfl, nI_mul, nI_add, Nat.mul_comm]
  have b27 : fX1_latest_b27 cap c' (nI s) (m 7 (512 * s + a)) = some (fX9_later (m 0 8) (fX9_later (m 6 s) (m 7 (512 * s + a)))) := by
    unfold fX1_latest_b27
    rw [gd_nI hs (by decide), nI_clamp (by omega), hc' 40 (by decide), hc' 41 (by decide), r1, e41, lat_eq, lat_eq]
  unfold fX1_latest
  rw [iz]
  rcases r10 (512 * s + a) (by omega) with ⟨j, hj, ej, e⟩ | ⟨no, e⟩
  · rw [ixo_f (k := k) (by rw [hc' 40 (by decide)]; exact r7) r6 (by omega) hcap hj (by rw [hc' 42 (by decide)]; exact ej) (fun i hi z => by
      rw [hc' 42 (by decide)] at z
      have := r9 i j (by omega) hj (z.trans ej.symm)
      omega), bd_eq, if_neg (by rw [m1ne (by omega)]; exact id), gd_nI (by omega) (by omega), nI_clamp (by omega), hc' 43 (by decide), ← e, b27]
  · rw [ixo_n (k := k) (by rw [hc' 40 (by decide)]; exact r7) r6 (by omega) hcap (fun i hi => by rw [hc' 42 (by decide)]; exact no i hi), bd_eq, if_pos rfl, ← b27, e]
theorem Fr_lt {m : Mm} {q base σ a : Nat} {g : Int32} : ∀ l t f, l < 3 → Fr m q base σ g a l t f → f < 1064 := by
  have pg : ∀ l, l < 3 → ∀ v f, Pg g v f (a % 8 ^ l) → f < 1064 := fun l hl v f h => by
    obtain ⟨-, -, u, hu, -, rfl⟩ := h
    obtain ⟨-, -, p, q⟩ := wid_eq l hl
    have := Nat.lt_of_lt_of_le (Nat.mod_lt a p) q
    omega
  intro l
  induction l with
  | zero =>
    rintro t f hl ⟨v, -, h⟩
    exact pg 0 hl v f h
  | succ l ih =>
    rintro t f hl ⟨v, -, h | ⟨-, u, -, -, h⟩⟩
    · exact pg (l + 1) hl v f h
    · exact ih u f (by omega) h
theorem Pm_lt {m : Mm} {q base σ τ a s f : Nat} (h : Pm m q base σ τ a s f) : f < 1064 := by
  rcases h with ⟨t, -, -, h⟩ | ⟨s', -, t, -, -, h⟩
  · exact Fr_lt 2 t f (by decide) h
  · exact Fr_lt 2 t f (by decide) h
/-- both sides have gathered -/
theorem perm_both {n cap s a : Nat} {c m : Mm} (hr : Rel n cap c m) (hn : n < 512) (hs : s < 6) (ha : a < 512) : ∃ (c' m' : Mm) (P : Nat → Prop), fX8_gatherPermitted cap c (nI s) (nI a) = some (c', ()) ∧ fX9_laysPermitted m (nI s) (nI a) = some (m', ()) ∧ Rel (n + 1) cap c' m' ∧ (∀ f, P f → f < 1064) ∧ (∀ f, f < 1088 → (Hs c' f ↔ P f)) ∧ ∀ f, f < 1100 → (m' 12 f = 1 ∧ P f) ∨ (m' 12 f = 0 ∧ ¬ P f) := by
  obtain ⟨q, base, hE, hC⟩ := ev_of hr hn
  obtain ⟨σ, τ, hσ, hτ, e1, e2, e3, e4⟩ := latest_sp hr.2.2.2.2.2.2.2.2.2.1 hn hs ha
  obtain ⟨c', g1, g2, g3⟩ := gp_sp hC hE hσ hτ ha hs e4 e3
  obtain ⟨m', l1, l2, l3⟩ := lays_sp hE hσ hτ ha hs e1 e2
  refine ⟨c', m', Pm m q base σ τ a s, g1, l1, hr.next (fun b hb => g2 b (fun e => by subst e; cases hb)) ⟨l2 1 (by decide), by rw [l2 0 (by decide)], by rw [l2 0 (by decide)], by rw [l2 0 (by decide)], fun b h1 h2 => l2 b h2⟩, fun f h => Pm_lt h, g3, l3⟩
theorem has_sp {c : Mm} {f : Nat} (hf : f < 1088) : (fX2_has c (nI f) = some 1 ∧ Hs c f) ∨ (fX2_has c (nI f) = some 0 ∧ ¬ Hs c f) := by
  unfold fX2_has Hs
  have e1 : nI f / (32 : Int32) = nI (f / 32) := pk_div (d := 32) (by omega) (by decide) (by decide)
  have e2 : nI f - nI (f / 32) * (32 : Int32) = nI (f % 32) := by
    have := pk_rem (a := f) (d := 32) (by omega) (by decide) (by decide)
    rw [← this, ← e1]
    rfl
  have d1 : f / 32 < 34 := by omega
  rw [if_neg (nI_pos (by omega)), e1, e2, if_neg (show ¬ (34 : Int32) ≤ nI (f / 32) from nI_ge (b := 34) d1 (by decide)), gd_nI d1 (by decide), nI_clamp (by omega)]
  by_cases h : bt (c 45 (f / 32)) (f % 32) = false
  · rw [if_pos ((and_bit (by omega)).mpr h)]
    exact Or.inr ⟨rfl, by rw [h]; decide⟩
  · rw [if_neg (fun z => h ((and_bit (by omega)).mp z))]
    refine Or.inl ⟨rfl, ?_⟩
    cases e : bt (c 45 (f / 32)) (f % 32)
    · exact absurd e h
    · rfl
theorem has_big {c : Mm} {x : Int32} (h : x < 0 ∨ nI 1088 ≤ x) : fX2_has c x = some 0 := by
  unfold fX2_has
  by_cases h0 : x < 0
  · rw [if_pos h0]
  · obtain ⟨f, hf, rfl⟩ := nI_of h0
    have hg := h.resolve_left h0
    rw [nle (by decide) hf] at hg
    have e1 : nI f / (32 : Int32) = nI (f / 32) := pk_div (d := 32) hf (by decide) (by decide)
    rw [if_neg h0, e1, if_pos (show (34 : Int32) ≤ nI (f / 32) from nI_le (a := 34) (by omega) (by omega))]
theorem st_permitted : St_permitted Rel := by
  intro n cap cm mm a1 a2 a3 hn hr
  have h0 : Rel n cap cm (wr mm 0 0 0) := hr.scr Sc.rf (Sm.wr0 (m := mm) 0 0 (by decide))
  unfold fX9_permitted
  rw [wk_eq]
  generalize wr mm 0 0 0 = m0 at h0
  unfold fX8_permitted
  have hN := h0.mono
  rcases rng a1 6 (by decide) with h | ⟨s, hs, rfl⟩
  · obtain ⟨e1, e2⟩ := sp_out h
    rw [e1, e2, if_pos rfl, if_pos rfl]
    exact ⟨_, _, 0, rfl, rfl, hN⟩
  obtain ⟨e1, e2⟩ := sp_in hs
  rw [e1, e2, if_neg one_ne, if_neg one_ne]
  rcases rng a2 512 (by decide) with h | ⟨a, ha, rfl⟩
  · obtain ⟨f1, f2⟩ := ad_out h
    rw [f1, f2, if_pos rfl, if_pos rfl]
    exact ⟨_, _, 0, rfl, rfl, hN⟩
  obtain ⟨f1, f2⟩ := ad_in ha
  obtain ⟨c', m', P, p1, p2, p3, p4, p5, p6⟩ := perm_both h0 hn hs ha
  rw [f1, f2, if_neg one_ne, if_neg one_ne, p1, bw_eq]
  rcases rng a3 1100 (by decide) with h | ⟨f, hf, rfl⟩
  · rw [show fX9_within a3 0 1099 = 0 from within_out (N := 1100) (by decide) (by decide) h, if_pos rfl, has_big (by
      rcases h with h | h
      · exact Or.inl h
      · exact Or.inr (le_tr (nI_le (by decide) (by decide)) h)), bd_eq, gz_0]
    refine ⟨_, _, 0, rfl, rfl, ?_⟩
    obtain ⟨q, base, hE, hC⟩ := ev_of h0 hn
    obtain ⟨σ, τ, hσ, hτ, x1, x2, x3, x4⟩ := latest_sp h0.2.2.2.2.2.2.2.2.2.1 hn hs ha
    obtain ⟨c2, g1, g2, -⟩ := gp_sp hC hE hσ hτ ha hs x4 x3
    rw [p1] at g1
    have : c' = c2 := by
      have := Option.some.inj g1
      exact congrArg Prod.fst this
    subst this
    exact h0.next (fun b hb => g2 b (fun e => by subst e; cases hb)) Sm.rf
  · rw [show fX9_within (nI f) 0 1099 = 1 from within_in (N := 1100) hf (by decide), if_neg one_ne, p2, bw_eq, gd_nI hf (by decide), nI_clamp (by omega)]
    by_cases hb : f < 1088
    · rcases has_sp (c := c') hb with ⟨k1, k2⟩ | ⟨k1, k2⟩
      · rcases p6 f hf with ⟨k3, k4⟩ | ⟨k3, k4⟩
        · rw [k1, bd_eq, gz_1, k3, gz_1]
          exact ⟨_, _, 1, rfl, rfl, p3⟩
        · exact absurd ((p5 f hb).mp k2) k4
      · rcases p6 f hf with ⟨k3, k4⟩ | ⟨k3, k4⟩
        · exact absurd ((p5 f hb).mpr k4) k2
        · rw [k1, bd_eq, gz_0, k3, gz_0]
          exact ⟨_, _, 0, rfl, rfl, p3⟩
    · rw [has_big (Or.inr (nI_le (by omega) (by omega))), bd_eq, gz_0]
      rcases p6 f hf with ⟨k3, k4⟩ | ⟨k3, k4⟩
      · have := p4 f k4
        omega
      · rw [k3, gz_0]
        exact ⟨_, _, 0, rfl, rfl, p3⟩
theorem many_lp {m : Mm} : fX9_many_b32 2000 m 0 0 = some (m, nI (fa_cnt (fun f => decide (¬ m 12 f = 0)) 1100)) := by
  have key := down (P := fun fu k => fX9_many_b32 fu m (nI (fa_cnt (fun f => decide (¬ m 12 f = 0)) k)) (nI k) = some (m, nI (fa_cnt (fun f => decide (¬ m 12 f = 0)) 1100))) 1100 ?_ ?_ 1100 0 2000 (by decide) (by decide)
  · exact key
  · intro fu
    have L : fX9_many_b32 (fu + 1) m (nI (fa_cnt (fun f => decide (¬ m 12 f = 0)) 1100)) (nI 1100) = fX9_many_b32_s (fX9_many_b32 fu) m (nI (fa_cnt (fun f => decide (¬ m 12 f = 0)) 1100)) (nI 1100) := rfl
    rw [L]
    unfold fX9_many_b32_s
    rw [if_pos (by decide)]
  · intro fu k hk ih
    have L : fX9_many_b32 (fu + 1) m (nI (fa_cnt (fun f => decide (¬ m 12 f = 0)) k)) (nI k) = fX9_many_b32_s (fX9_many_b32 fu) m (nI (fa_cnt (fun f => decide (¬ m 12 f = 0)) k)) (nI k) := rfl
    rw [L]
    unfold fX9_many_b32_s
    rw [if_neg (show ¬ (1100 : Int32) ≤ nI k from nI_ge (b := 1100) hk (by decide)), gd_nI hk (by decide), nI_clamp (by omega), lk_eq, lk_eq, na0, na1, na1]
    by_cases h : m 12 k = 0
    · rw [if_pos h]
      have e : fa_cnt (fun f => decide (¬ m 12 f = 0)) (k + 1) = fa_cnt (fun f => decide (¬ m 12 f = 0)) k := fa_cnt_no (by
        show decide (¬ m 12 k = 0) = false
        exact decide_eq_false (fun z => z h))
      rw [e] at ih
      exact ih
    · rw [if_neg h]
      have e : fa_cnt (fun f => decide (¬ m 12 f = 0)) (k + 1) = fa_cnt (fun f => decide (¬ m 12 f = 0)) k + 1 := fa_cnt_yes (by
        show decide (¬ m 12 k = 0) = true
        exact decide_eq_true h)
      rw [e] at ih
      exact ih
theorem cnt_zero {p : Nat → Bool} : ∀ n, (∀ k, k < n → p k = false) → fa_cnt p n = 0
  | 0, _ => rfl
  | n + 1, h => by rw [fa_cnt_no (h n (by omega)), cnt_zero n (fun k hk => h k (by omega))]
theorem st_many : St_many Rel := by
  intro n cap cm mm a1 a2 hn hr
  have h0 : Rel n cap cm (wr mm 0 0 0) := hr.scr Sc.rf (Sm.wr0 (m := mm) 0 0 (by decide))
  unfold fX9_many
  rw [wk_eq]
  generalize wr mm 0 0 0 = m0 at h0
  unfold fX8_many
  have hN := h0.mono
  rcases rng a1 6 (by decide) with h | ⟨s, hs, rfl⟩
  · obtain ⟨e1, e2⟩ := sp_out h
    rw [e1, e2, if_pos rfl, if_pos rfl]
    exact ⟨_, _, -1, rfl, rfl, hN⟩
  obtain ⟨e1, e2⟩ := sp_in hs
  rw [e1, e2, if_neg one_ne, if_neg one_ne]
  rcases rng a2 512 (by decide) with h | ⟨a, ha, rfl⟩
  · obtain ⟨f1, f2⟩ := ad_out h
    rw [f1, f2, if_pos rfl, if_pos rfl]
    exact ⟨_, _, -1, rfl, rfl, hN⟩
  obtain ⟨f1, f2⟩ := ad_in ha
  obtain ⟨c', m', P, p1, p2, p3, p4, p5, p6⟩ := perm_both h0 hn hs ha
  rw [f1, f2, if_neg one_ne, if_neg one_ne, p1, bw_eq, p2, bw_eq, size_sp, bd_eq, many_lp]
  have e : fa_cnt (fun f => bt (c' 45 (f / 32)) (f % 32)) 1088 = fa_cnt (fun f => decide (¬ m' 12 f = 0)) 1100 := by
    rw [show (1100 : Nat) = 1088 + 12 from rfl, cnt_add _ 1088 12, cnt_zero (p := fun i => decide (¬ m' 12 (1088 + i) = 0)) 12 (fun k hk => by
      rcases p6 (1088 + k) (by omega) with ⟨-, k4⟩ | ⟨k3, -⟩
      · have := p4 _ k4
        omega
      · exact decide_eq_false (fun z => z k3)), Nat.add_zero]
    apply fa_cnt_cong
    intro f hf
    rcases p6 f (by omega) with ⟨k3, k4⟩ | ⟨k3, k4⟩
    · rw [decide_eq_true (by rw [k3]; decide)]
      exact (p5 f hf).mpr k4
    · rw [decide_eq_false (fun z => z k3)]
      cases h : bt (c' 45 (f / 32)) (f % 32)
      · rfl
      · exact absurd ((p5 f hf).mp h) k4
  rw [e]
  exact ⟨_, _, _, rfl, rfl, p3⟩
