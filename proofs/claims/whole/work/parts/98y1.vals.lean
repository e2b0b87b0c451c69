/-! PURE: what was, since a fence: the reference's side -/
def Vs (m : Mm) (q base σ : Nat) (key now v : Int32) : Prop := v = now ∨ ∃ j, j < q ∧ σ ≤ base + j ∧ m 3 j = key ∧ v = m 4 j
def Hd (m : Mm) (q base : Nat) : Prop := q ≤ 40 ∧ base + q ≤ 600 ∧ m 0 6 = nI q ∧ ∀ j, j < q → m 5 j = nI (base + j + 1)
theorem Vs.mo {m : Mm} {q base σ : Nat} {key now v : Int32} (h : Vs m q base σ key now v) : Vs m (q + 1) base σ key now v := by
  rcases h with h | ⟨j, h1, h2⟩
  · exact Or.inl h
  · exact Or.inr ⟨j, by omega, h2⟩
theorem vals_sp {m mm : Mm} {q base σ B : Nat} {key now : Int32} (hH : Hd m q base) (hσ : σ ≤ 600) (hB : 8 ≤ B) (hs : ∀ b, b ≤ 7 → mm b = m b) : ∃ m' cnt, fX9_valuesOf mm key now (nI σ) B = some (m', nI cnt) ∧ 1 ≤ cnt ∧ cnt ≤ 41 ∧ (∀ b, b ≠ B → m' b = mm b) ∧ (∀ k, k < cnt → Vs m q base σ key now (m' B k)) ∧ ∀ v, Vs m q base σ key now v → ∃ k, k < cnt ∧ m' B k = v := by
  obtain ⟨hq, hb, h6, h5⟩ := hH
  unfold fX9_valuesOf
  have key := down (P := fun fu j => ∀ (cnt : Nat) (m1 : Mm), 1 ≤ cnt → cnt ≤ j + 1 → (∀ b, b ≠ B → m1 b = mm b) → (∀ k, k < cnt → Vs m j base σ key now (m1 B k)) → (∀ v, Vs m j base σ key now v → ∃ k, k < cnt ∧ m1 B k = v) → ∃ m' cnt', fX9_valuesOf_b11 fu m1 key (nI σ) B (nI cnt) (nI j) = some (m', nI cnt') ∧ 1 ≤ cnt' ∧ cnt' ≤ 41 ∧ (∀ b, b ≠ B → m' b = mm b) ∧ (∀ k, k < cnt' → Vs m q base σ key now (m' B k)) ∧ ∀ v, Vs m q base σ key now v → ∃ k, k < cnt' ∧ m' B k = v) q ?_ ?_ q 0 2000 (by omega) (by omega) 1 (wr mm B 0 now) (by omega) (by omega) (fun b hb => wr_ne _ _ _ hb) (fun k hk => by
      have : k = 0 := by omega
      subst this
      rw [wr_same]
      exact Or.inl rfl) (fun v hv => by
      rcases hv with rfl | ⟨j, hj, -⟩
      · exact ⟨0, by omega, wr_same _ _ _ _⟩
      · omega)
  · exact key
  · intro fu cnt m1 c1 c2 c3 c4 c5
    have L : fX9_valuesOf_b11 (fu + 1) m1 key (nI σ) B (nI cnt) (nI q) = fX9_valuesOf_b11_s (fX9_valuesOf_b11 fu) m1 key (nI σ) B (nI cnt) (nI q) := rfl
    rw [L]
    unfold fX9_valuesOf_b11_s
    rw [c3 0 (by omega), hs 0 (by omega), h6, if_pos (nI_le (Nat.le_refl _) (by omega))]
    exact ⟨_, cnt, rfl, c1, by omega, c3, c4, c5⟩
  · intro fu j hj ih cnt m1 c1 c2 c3 c4 c5
    have L : fX9_valuesOf_b11 (fu + 1) m1 key (nI σ) B (nI cnt) (nI j) = fX9_valuesOf_b11_s (fX9_valuesOf_b11 fu) m1 key (nI σ) B (nI cnt) (nI j) := rfl
    rw [L]
    unfold fX9_valuesOf_b11_s
    rw [c3 0 (by omega), hs 0 (by omega), h6, if_neg (show ¬ nI q ≤ nI j from nI_ge hj (by omega)), c3 3 (by omega), hs 3 (by omega), c3 4 (by omega), hs 4 (by omega), c3 5 (by omega), hs 5 (by omega)]
    rw [gd_nI (by omega) (by decide), gd_nI (by omega) (by decide), gd_nI (by omega) (by decide), gd_nI (by omega) (by decide), nI_clamp (by omega), nI_clamp (by omega), wk_eq, na1, na1, h5 j hj]
    have nl := nle (a := base + j + 1) (b := σ) (by omega) (by omega)
    have no : ¬ (m 3 j = key ∧ σ ≤ base + j) → ∀ v, Vs m (j + 1) base σ key now v → Vs m j base σ key now v := fun hn v hv => by
      rcases hv with h | ⟨i, h1, h2, h3, h4⟩
      · exact Or.inl h
      · by_cases e : i = j
        · subst e; exact absurd ⟨h3, h2⟩ hn
        · exact Or.inr ⟨i, by omega, h2, h3, h4⟩
    by_cases e1 : m 3 j = key
    · rw [if_pos e1]
      by_cases e2 : base + j + 1 ≤ σ
      · rw [if_pos (nl ▸ e2)]
        exact ih cnt m1 c1 (by omega) c3 (fun k hk => (c4 k hk).mo) (fun v hv => c5 v (no (fun z => by omega) v hv))
      · rw [if_neg (fun z => e2 (nl ▸ z))]
        refine ih (cnt + 1) (wr m1 B cnt (m 4 j)) (by omega) (by omega) (fun b hb => by rw [wr_ne _ _ _ hb, c3 b hb]) (fun k hk => ?_) (fun v hv => ?_)
        · by_cases e : k = cnt
          · subst e
            rw [wr_same]
            exact Or.inr ⟨j, by omega, by omega, e1, rfl⟩
          · rw [wr_i _ _ _ e]
            exact (c4 k (by omega)).mo
        · rcases hv with h | ⟨i, i1, i2, i3, i4⟩
          · obtain ⟨k, hk, ek⟩ := c5 v (Or.inl h)
            exact ⟨k, by omega, by rw [wr_i _ _ _ (by omega)]; exact ek⟩
          · by_cases e : i = j
            · subst e
              exact ⟨cnt, by omega, by rw [wr_same, i4]⟩
            · obtain ⟨k, hk, ek⟩ := c5 v (Or.inr ⟨i, by omega, i2, i3, i4⟩)
              exact ⟨k, by omega, by rw [wr_i _ _ _ (by omega)]; exact ek⟩
    · rw [if_neg e1]
      exact ih cnt m1 c1 (by omega) c3 (fun k hk => (c4 k hk).mo) (fun v hv => c5 v (no (fun z => e1 z.1) v hv))
/-- a page's frame -/
def Pg (g v : Int32) (f rest : Nat) : Prop := fX9_whatOf v = 2 ∧ (g = 0 ∨ ¬ fX9_rightsOf v &&& 8 = 0) ∧ ∃ u, u < 1000 ∧ fX9_targetOf v = nI u ∧ f = u + rest
/-- frames of a table at a level, by entries as they were -/
def Fr (m : Mm) (q base σ : Nat) (g : Int32) (a : Nat) : Nat → Nat → Nat → Prop
  | 0, t, f => ∃ v, Vs m q base σ (nI (cAt t a 0)) (m 1 (cAt t a 0)) v ∧ Pg g v f (a % 8 ^ 0)
  | l + 1, t, f => ∃ v, Vs m q base σ (nI (cAt t a (l + 1))) (m 1 (cAt t a (l + 1))) v ∧ (Pg g v f (a % 8 ^ (l + 1)) ∨ (fX9_whatOf v = 1 ∧ ∃ u, u < 12 ∧ fX9_targetOf v = nI u ∧ Fr m q base σ g a l u f))
def Ad (P : Nat → Prop) (m m' : Mm) : Prop := ∀ f, f < 1100 → (m' 12 f = 1 ↔ (m 12 f = 1 ∨ P f)) ∧ (m' 12 f = m 12 f ∨ m' 12 f = 1)
theorem Ad.rf {P : Nat → Prop} {m m' : Mm} (h : m' 12 = m 12) (hn : ∀ f, f < 1100 → ¬ P f) : Ad P m m' := fun f hf => by
  rw [h]
  exact ⟨⟨Or.inl, fun z => z.resolve_right (hn f hf)⟩, Or.inl rfl⟩
theorem Ad.tr {P Q R : Nat → Prop} {m m' m'' : Mm} (h : Ad P m m') (g : Ad Q m' m'') (hR : ∀ f, f < 1100 → (R f ↔ (P f ∨ Q f))) : Ad R m m'' := fun f hf => by
  obtain ⟨h1, h2⟩ := h f hf
  obtain ⟨g1, g2⟩ := g f hf
  refine ⟨by rw [g1, h1, hR f hf, or_assoc], ?_⟩
  rcases g2 with g2 | g2
  · rcases h2 with h2 | h2
    · exact Or.inl (g2.trans h2)
    · exact Or.inr (g2.trans h2)
  · exact Or.inr g2
theorem Ad.cg {P Q : Nat → Prop} {m m' n : Mm} (h : Ad P m m') (e : n 12 = m 12) (hP : ∀ f, f < 1100 → (Q f ↔ P f)) : Ad Q n m' := fun f hf => by
  rw [e, hP f hf]
  exact h f hf
theorem permits_sp {mm : Mm} {a l : Nat} {v g : Int32} (ha : a < 512) (hl : l < 3) (vc : Vc v) : ∃ m', fX9_permits mm v (nI a) (nI l) g = some (m', ()) ∧ (∀ b, b ≠ 12 → m' b = mm b) ∧ Ad (fun f => Pg g v f (a % 8 ^ l)) mm m' := by
  have hrs : a % 8 ^ l < 64 := by
    obtain ⟨-, -, p, q⟩ := wid_eq l hl
    exact Nat.lt_of_lt_of_le (Nat.mod_lt _ p) q
  unfold fX9_permits
  rcases vc.parts with ⟨k0, -⟩ | ⟨k1, -⟩ | ⟨k2, ⟨u, hu, et⟩, -⟩
  · rw [if_neg (by rw [k0]; decide)]
    exact ⟨mm, rfl, fun _ _ => rfl, Ad.rf rfl (fun f _ z => absurd (k0.symm.trans z.1) (by decide))⟩
  · rw [if_neg (by rw [k1]; decide)]
    exact ⟨mm, rfl, fun _ _ => rfl, Ad.rf rfl (fun f _ z => absurd (k1.symm.trans z.1) (by decide))⟩
  · rw [if_pos k2]
    have b23 : (g = 0 ∨ ¬ fX9_rightsOf v &&& 8 = 0) → ∃ m', fX9_permits_b23 mm v (nI a) (nI l) = some (m', ()) ∧ (∀ b, b ≠ 12 → m' b = mm b) ∧ Ad (fun f => Pg g v f (a % 8 ^ l)) mm m' := fun hg => by
      unfold fX9_permits_b23
      rw [nz_wide hl, remw hl ha, et, nI_add, gd_nI (by omega) (by decide), wk_eq, nI_clamp (by omega)]
      refine ⟨_, rfl, fun b hb => wr_ne _ _ _ hb, fun f hf => ?_⟩
      by_cases e : f = u + a % 8 ^ l
      · subst e
        rw [wr_same]
        exact ⟨⟨fun _ => Or.inr ⟨k2, hg, u, hu, et, rfl⟩, fun _ => rfl⟩, Or.inr rfl⟩
      · rw [wr_i _ _ _ e]
        refine ⟨⟨Or.inl, fun z => z.resolve_right (fun ⟨_, _, u', hu', et', ef⟩ => e ?_)⟩, Or.inl rfl⟩
        rw [et] at et'
        rw [ef, nI_inj (by omega) (by omega) et']
    by_cases hg : g = 0
    · rw [if_pos hg]; exact b23 (Or.inl hg)
    · rw [if_neg hg]
      by_cases h8 : fX9_rightsOf v &&& 8 = 0
      · rw [if_pos h8]
        exact ⟨mm, rfl, fun _ _ => rfl, Ad.rf rfl (fun f _ z => z.2.1.elim hg (fun y => y h8))⟩
      · rw [if_neg h8]; exact b23 (Or.inr h8)
