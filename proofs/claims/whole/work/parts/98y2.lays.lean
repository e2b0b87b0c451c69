/-! PURE: what the reference lays -/
def Ev (m : Mm) (q base : Nat) : Prop := Hd m q base ∧ (∀ σ i v, i < 96 → Vs m q base σ (nI i) (m 1 i) v → Vc v) ∧ ∀ σ s v, s < 6 → Vs m q base σ (nI (96 + s)) (m 1 (326 + s)) v → Vn 12 v
theorem low_sp {m mm : Mm} {q base σ a u : Nat} {code g : Int32} (hE : Ev m q base) (hσ : σ ≤ 600) (hs : ∀ b, b ≤ 7 → mm b = m b) (ha : a < 512) (hu : u < 12) (ht : fX9_targetOf code = nI u) : ∃ m', fX9_laysLow mm code (nI a) (nI σ) g = some (m', ()) ∧ (∀ b, b ≠ 11 → b ≠ 12 → m' b = mm b) ∧ Ad (Fr m q base σ g a 0 u) mm m' := by
  have hx : cAt u a 0 < 96 := cAt_lt hu
  obtain ⟨M, cnt, v1, v2, v3, v4, v5, v6⟩ := vals_sp (key := nI (cAt u a 0)) (now := m 1 (cAt u a 0)) (B := 11) hE.1 hσ (by decide) hs
  unfold fX9_laysLow
  rw [ht, show fX9_place (nI u) (nI a) 0 = some (nI (cAt u a 0)) from place_at (l := 0) (by decide) ha, bd_eq, i0, gd_nI (by omega) (by decide), nI_clamp (by omega), hs 1 (by decide), v1, bw_eq]
  have key := down (P := fun fu k => ∀ m1 : Mm, (∀ b, b ≠ 12 → m1 b = M b) → ∃ m', fX9_laysLow_b36 fu m1 (nI a) g (nI cnt) (nI k) = some (m', ()) ∧ (∀ b, b ≠ 12 → m' b = M b) ∧ Ad (fun f => ∃ k', k ≤ k' ∧ k' < cnt ∧ Pg g (M 11 k') f (a % 8 ^ 0)) m1 m') cnt ?_ ?_ cnt 0 2000 (by omega) (by omega) M (fun _ _ => rfl)
  · obtain ⟨m', k1, k2, k3⟩ := key
    refine ⟨m', k1, fun b h1 h2 => by rw [k2 b h2, v4 b h1], k3.cg (by rw [v4 12 (by decide)]) (fun f hf => ?_)⟩
    constructor
    · rintro ⟨v, hv, hp⟩
      obtain ⟨k, hk, rfl⟩ := v6 v hv
      exact ⟨k, by omega, hk, hp⟩
    · rintro ⟨k, -, hk, hp⟩
      exact ⟨_, v5 k hk, hp⟩
  · intro fu m1 h
    have L : fX9_laysLow_b36 (fu + 1) m1 (nI a) g (nI cnt) (nI cnt) = fX9_laysLow_b36_s (fX9_laysLow_b36 fu) m1 (nI a) g (nI cnt) (nI cnt) := rfl
    rw [L]
    unfold fX9_laysLow_b36_s
    rw [if_pos (nI_le (Nat.le_refl _) (by omega))]
    exact ⟨m1, rfl, h, Ad.rf rfl (fun f _ ⟨k', h1, h2, _⟩ => by omega)⟩
  · intro fu k hk ih m1 h
    have L : fX9_laysLow_b36 (fu + 1) m1 (nI a) g (nI cnt) (nI k) = fX9_laysLow_b36_s (fX9_laysLow_b36 fu) m1 (nI a) g (nI cnt) (nI k) := rfl
    rw [L]
    unfold fX9_laysLow_b36_s
    obtain ⟨m2, p1, p2, p3⟩ := permits_sp (mm := m1) (l := 0) (g := g) (v := M 11 k) ha (by decide) (hE.2.1 σ _ _ hx (v5 k hk))
    rw [if_neg (show ¬ nI cnt ≤ nI k from nI_ge hk (by omega)), gd_nI (by omega) (by decide), nI_clamp (by omega), h 11 (by decide), show fX9_permits m1 (M 11 k) (nI a) 0 g = some (m2, ()) from p1, bw_eq, na1]
    obtain ⟨m', k1, k2, k3⟩ := ih m2 (fun b hb => by rw [p2 b hb, h b hb])
    refine ⟨m', k1, k2, p3.tr k3 (fun f hf => ?_)⟩
    constructor
    · rintro ⟨k', h1, h2, h3⟩
      by_cases e : k' = k
      · subst e; exact Or.inl h3
      · exact Or.inr ⟨k', by omega, h2, h3⟩
    · rintro (h1 | ⟨k', h1, h2, h3⟩)
      · exact ⟨k, by omega, hk, h1⟩
      · exact ⟨k', by omega, h2, h3⟩
theorem mid_sp {m mm : Mm} {q base σ a u : Nat} {code g : Int32} (hE : Ev m q base) (hσ : σ ≤ 600) (hs : ∀ b, b ≤ 7 → mm b = m b) (ha : a < 512) (hu : u < 12) (ht : fX9_targetOf code = nI u) : ∃ m', fX9_laysMid mm code (nI a) (nI σ) g = some (m', ()) ∧ (∀ b, b ≠ 10 → b ≠ 11 → b ≠ 12 → m' b = mm b) ∧ Ad (Fr m q base σ g a 1 u) mm m' := by
  have hx : cAt u a 1 < 96 := cAt_lt hu
  obtain ⟨M, cnt, v1, v2, v3, v4, v5, v6⟩ := vals_sp (key := nI (cAt u a 1)) (now := m 1 (cAt u a 1)) (B := 10) hE.1 hσ (by decide) hs
  unfold fX9_laysMid
  rw [ht, show fX9_place (nI u) (nI a) 1 = some (nI (cAt u a 1)) from place_at (l := 1) (by decide) ha, bd_eq, i0, gd_nI (by omega) (by decide), nI_clamp (by omega), hs 1 (by decide), v1, bw_eq]
  have key := down (P := fun fu k => ∀ m1 : Mm, (∀ b, b ≠ 11 → b ≠ 12 → m1 b = M b) → ∃ m', fX9_laysMid_b36 fu m1 (nI a) (nI σ) g (nI cnt) (nI k) = some (m', ()) ∧ (∀ b, b ≠ 11 → b ≠ 12 → m' b = M b) ∧ Ad (fun f => ∃ k', k ≤ k' ∧ k' < cnt ∧ (Pg g (M 10 k') f (a % 8 ^ 1) ∨ (fX9_whatOf (M 10 k') = 1 ∧ ∃ u, u < 12 ∧ fX9_targetOf (M 10 k') = nI u ∧ Fr m q base σ g a 0 u f))) m1 m') cnt ?_ ?_ cnt 0 2000 (by omega) (by omega) M (fun _ _ _ => rfl)
  · obtain ⟨m', k1, k2, k3⟩ := key
    refine ⟨m', k1, fun b h1 h2 h3 => by rw [k2 b h2 h3, v4 b h1], k3.cg (by rw [v4 12 (by decide)]) (fun f hf => ?_)⟩
    constructor
    · rintro ⟨v, hv, hp⟩
      obtain ⟨k, hk, rfl⟩ := v6 v hv
      exact ⟨k, by omega, hk, hp⟩
    · rintro ⟨k, -, hk, hp⟩
      exact ⟨_, v5 k hk, hp⟩
  · intro fu m1 h
    have L : fX9_laysMid_b36 (fu + 1) m1 (nI a) (nI σ) g (nI cnt) (nI cnt) = fX9_laysMid_b36_s (fX9_laysMid_b36 fu) m1 (nI a) (nI σ) g (nI cnt) (nI cnt) := rfl
    rw [L]
    unfold fX9_laysMid_b36_s
    rw [if_pos (nI_le (Nat.le_refl _) (by omega))]
    exact ⟨m1, rfl, h, Ad.rf rfl (fun f _ ⟨k', h1, h2, _⟩ => by omega)⟩
  · intro fu k hk ih m1 h
    have L : fX9_laysMid_b36 (fu + 1) m1 (nI a) (nI σ) g (nI cnt) (nI k) = fX9_laysMid_b36_s (fX9_laysMid_b36 fu) m1 (nI a) (nI σ) g (nI cnt) (nI k) := rfl
    rw [L]
    unfold fX9_laysMid_b36_s
    have vc := hE.2.1 σ _ _ hx (v5 k hk)
    obtain ⟨m2, p1, p2, p3⟩ := permits_sp (mm := m1) (l := 1) (g := g) (v := M 10 k) ha (by decide) vc
    rw [if_neg (show ¬ nI cnt ≤ nI k from nI_ge hk (by omega)), gd_nI (by omega) (by decide), nI_clamp (by omega), h 10 (by decide) (by decide), show fX9_permits m1 (M 10 k) (nI a) 1 g = some (m2, ()) from p1, bw_eq, na1, gd_nI (by omega) (by decide), gd_nI (by omega) (by decide), p2 10 (by decide), h 10 (by decide) (by decide)]
    have ms : ∀ b, b ≤ 7 → m2 b = m b := fun b hb => by rw [p2 b (by omega), h b (by omega) (by omega), v4 b (by omega), hs b hb]
    by_cases w : fX9_whatOf (M 10 k) = 1
    · rw [if_pos w]
      obtain ⟨u', hu', et⟩ : ∃ u', u' < 12 ∧ fX9_targetOf (M 10 k) = nI u' := by
        rcases vc.parts with ⟨k0, -⟩ | ⟨-, e, -⟩ | ⟨k2, -⟩
        · rw [k0] at w; exact absurd w (by decide)
        · exact e
        · rw [k2] at w; exact absurd w (by decide)
      obtain ⟨m3, l1, l2, l3⟩ := low_sp (g := g) (code := M 10 k) hE hσ ms ha hu' et
      rw [l1, bw_eq]
      obtain ⟨m', k1, k2, k3⟩ := ih m3 (fun b h1 h2 => by rw [l2 b h1 h2, p2 b h2, h b h1 h2])
      refine ⟨m', k1, k2, (p3.tr (R := fun f => Pg g (M 10 k) f (a % 8 ^ 1) ∨ Fr m q base σ g a 0 u' f) l3 (fun f hf => Iff.rfl)).tr k3 (fun f hf => ?_)⟩
      constructor
      · rintro ⟨k', h1, h2, h3⟩
        by_cases e : k' = k
        · subst e
          left
          rcases h3 with h3 | ⟨-, u2, hu2, et2, h3⟩
          · exact Or.inl h3
          · rw [et] at et2
            rw [nI_inj (by omega) (by omega) et2]
            exact Or.inr h3
        · exact Or.inr ⟨k', by omega, h2, h3⟩
      · rintro ((h1 | h1) | ⟨k', h1, h2, h3⟩)
        · exact ⟨k, by omega, hk, Or.inl h1⟩
        · exact ⟨k, by omega, hk, Or.inr ⟨w, u', hu', et, h1⟩⟩
        · exact ⟨k', by omega, h2, h3⟩
    · rw [if_neg w]
      obtain ⟨m', k1, k2, k3⟩ := ih m2 (fun b h1 h2 => by rw [p2 b h2, h b h1 h2])
      refine ⟨m', k1, k2, p3.tr k3 (fun f hf => ?_)⟩
      constructor
      · rintro ⟨k', h1, h2, h3⟩
        by_cases e : k' = k
        · subst e
          exact Or.inl (h3.resolve_right (fun z => w z.1))
        · exact Or.inr ⟨k', by omega, h2, h3⟩
      · rintro (h1 | ⟨k', h1, h2, h3⟩)
        · exact ⟨k, by omega, hk, Or.inl h1⟩
        · exact ⟨k', by omega, h2, h3⟩
/-- the inner loop of laysWays -/
theorem b102_sp {m M : Mm} {q base σ a t cnt : Nat} {g x5 x6 : Int32} (hE : Ev m q base) (hσ : σ ≤ 600) (hs : ∀ b, b ≤ 7 → M b = m b) (ha : a < 512) (ht : t < 12) (hcnt : cnt ≤ 41) (v5 : ∀ k, k < cnt → Vs m q base σ (nI (cAt t a 2)) (m 1 (cAt t a 2)) (M 9 k)) (v6 : ∀ v, Vs m q base σ (nI (cAt t a 2)) (m 1 (cAt t a 2)) v → ∃ k, k < cnt ∧ M 9 k = v) (K : Mm → Int32 → Int32 → Int32 → Int32 → Int32 → Option (Mm × Unit)) : ∃ m', fX9_laysWays_b102 K 2000 M (nI a) (nI σ) g x5 x6 (nI cnt) 0 = K m' (nI a) (nI σ) g x5 (x6 + 1) ∧ (∀ b, b ≠ 10 → b ≠ 11 → b ≠ 12 → m' b = M b) ∧ Ad (Fr m q base σ g a 2 t) M m' := by
  have hx : cAt t a 2 < 96 := cAt_lt ht
  have key := down (P := fun fu k => ∀ m1 : Mm, (∀ b, b ≠ 10 → b ≠ 11 → b ≠ 12 → m1 b = M b) → ∃ m', fX9_laysWays_b102 K fu m1 (nI a) (nI σ) g x5 x6 (nI cnt) (nI k) = K m' (nI a) (nI σ) g x5 (x6 + 1) ∧ (∀ b, b ≠ 10 → b ≠ 11 → b ≠ 12 → m' b = M b) ∧ Ad (fun f => ∃ k', k ≤ k' ∧ k' < cnt ∧ (Pg g (M 9 k') f (a % 8 ^ 2) ∨ (fX9_whatOf (M 9 k') = 1 ∧ ∃ u, u < 12 ∧ fX9_targetOf (M 9 k') = nI u ∧ Fr m q base σ g a 1 u f))) m1 m') cnt ?_ ?_ cnt 0 2000 (by omega) (by omega) M (fun _ _ _ _ => rfl)
  · obtain ⟨m', k1, k2, k3⟩ := key
    refine ⟨m', k1, k2, k3.cg rfl (fun f hf => ?_)⟩
    constructor
    · rintro ⟨v, hv, hp⟩
      obtain ⟨k, hk, rfl⟩ := v6 v hv
      exact ⟨k, by omega, hk, hp⟩
    · rintro ⟨k, -, hk, hp⟩
      exact ⟨_, v5 k hk, hp⟩
  · intro fu m1 h
    have L : fX9_laysWays_b102 K (fu + 1) m1 (nI a) (nI σ) g x5 x6 (nI cnt) (nI cnt) = fX9_laysWays_b102_s K (fX9_laysWays_b102 K fu) m1 (nI a) (nI σ) g x5 x6 (nI cnt) (nI cnt) := rfl
    rw [L]
    unfold fX9_laysWays_b102_s
    rw [if_pos (nI_le (Nat.le_refl _) (by omega))]
    exact ⟨m1, rfl, h, Ad.rf rfl (fun f _ ⟨k', h1, h2, _⟩ => by omega)⟩
  · intro fu k hk ih m1 h
    have L : fX9_laysWays_b102 K (fu + 1) m1 (nI a) (nI σ) g x5 x6 (nI cnt) (nI k) = fX9_laysWays_b102_s K (fX9_laysWays_b102 K fu) m1 (nI a) (nI σ) g x5 x6 (nI cnt) (nI k) := rfl
    rw [L]
    unfold fX9_laysWays_b102_s
    have vc := hE.2.1 σ _ _ hx (v5 k hk)
    obtain ⟨m2, p1, p2, p3⟩ := permits_sp (mm := m1) (l := 2) (g := g) (v := M 9 k) ha (by decide) vc
    rw [if_neg (show ¬ nI cnt ≤ nI k from nI_ge hk (by omega)), gd_nI (by omega) (by decide), nI_clamp (by omega), h 9 (by decide) (by decide) (by decide), show fX9_permits m1 (M 9 k) (nI a) 2 g = some (m2, ()) from p1, bw_eq, na1, gd_nI (by omega) (by decide), gd_nI (by omega) (by decide), p2 9 (by decide), h 9 (by decide) (by decide) (by decide)]
    have ms : ∀ b, b ≤ 7 → m2 b = m b := fun b hb => by rw [p2 b (by omega), h b (by omega) (by omega) (by omega), hs b hb]
    by_cases w : fX9_whatOf (M 9 k) = 1
    · rw [if_pos w]
      obtain ⟨u', hu', et⟩ : ∃ u', u' < 12 ∧ fX9_targetOf (M 9 k) = nI u' := by
        rcases vc.parts with ⟨k0, -⟩ | ⟨-, e, -⟩ | ⟨k2, -⟩
        · rw [k0] at w; exact absurd w (by decide)
        · exact e
        · rw [k2] at w; exact absurd w (by decide)
      obtain ⟨m3, l1, l2, l3⟩ := mid_sp (g := g) (code := M 9 k) hE hσ ms ha hu' et
      rw [l1, bw_eq]
      obtain ⟨m', k1, k2, k3⟩ := ih m3 (fun b h1 h2 h3 => by rw [l2 b h1 h2 h3, p2 b h3, h b h1 h2 h3])
      refine ⟨m', k1, k2, (p3.tr (R := fun f => Pg g (M 9 k) f (a % 8 ^ 2) ∨ Fr m q base σ g a 1 u' f) l3 (fun f hf => Iff.rfl)).tr k3 (fun f hf => ?_)⟩
      constructor
      · rintro ⟨k', h1, h2, h3⟩
        by_cases e : k' = k
        · subst e
          left
          rcases h3 with h3 | ⟨-, u2, hu2, et2, h3⟩
          · exact Or.inl h3
          · rw [et] at et2
            rw [nI_inj (by omega) (by omega) et2]
            exact Or.inr h3
        · exact Or.inr ⟨k', by omega, h2, h3⟩
      · rintro ((h1 | h1) | ⟨k', h1, h2, h3⟩)
        · exact ⟨k, by omega, hk, Or.inl h1⟩
        · exact ⟨k, by omega, hk, Or.inr ⟨w, u', hu', et, h1⟩⟩
        · exact ⟨k', by omega, h2, h3⟩
    · rw [if_neg w]
      obtain ⟨m', k1, k2, k3⟩ := ih m2 (fun b h1 h2 h3 => by rw [p2 b h3, h b h1 h2 h3])
      refine ⟨m', k1, k2, p3.tr k3 (fun f hf => ?_)⟩
      constructor
      · rintro ⟨k', h1, h2, h3⟩
        by_cases e : k' = k
        · subst e
          exact Or.inl (h3.resolve_right (fun z => w z.1))
        · exact Or.inr ⟨k', by omega, h2, h3⟩
      · rintro (h1 | ⟨k', h1, h2, h3⟩)
        · exact ⟨k, by omega, hk, Or.inl h1⟩
        · exact ⟨k', by omega, h2, h3⟩
def Wy (m : Mm) (q base σ : Nat) (g : Int32) (a s f : Nat) : Prop := ∃ t, t < 12 ∧ Vs m q base σ (nI (96 + s)) (m 1 (326 + s)) (nI t) ∧ Fr m q base σ g a 2 t f
theorem ways_sp {m mm : Mm} {q base σ a s : Nat} {g : Int32} (hE : Ev m q base) (hσ : σ ≤ 600) (hs : ∀ b, b ≤ 7 → mm b = m b) (ha : a < 512) (hsp : s < 6) : ∃ m', fX9_laysWays mm (nI s) (nI a) (nI σ) g = some (m', ()) ∧ (∀ b, b ≤ 7 → m' b = mm b) ∧ Ad (Wy m q base σ g a s) mm m' := by
  obtain ⟨M, cnt, v1, v2, v3, v4, v5, v6⟩ := vals_sp (key := nI (96 + s)) (now := m 1 (326 + s)) (B := 8) hE.1 hσ (by decide) hs
  unfold fX9_laysWays
  rw [i326, i96, gd_nI (by omega) (by decide), nI_clamp (by omega), hs 1 (by decide), v1, bw_eq]
  have key := down (P := fun fu k => ∀ m1 : Mm, (∀ b, b ≤ 8 → m1 b = M b) → ∃ m', fX9_laysWays_b28 fu m1 (nI a) (nI σ) g (nI cnt) (nI k) = some (m', ()) ∧ (∀ b, b ≤ 8 → m' b = M b) ∧ Ad (fun f => ∃ k', k ≤ k' ∧ k' < cnt ∧ ∃ t, t < 12 ∧ M 8 k' = nI t ∧ Fr m q base σ g a 2 t f) m1 m') cnt ?_ ?_ cnt 0 2000 (by omega) (by omega) M (fun _ _ => rfl)
  · obtain ⟨m', k1, k2, k3⟩ := key
    refine ⟨m', k1, fun b h1 => by rw [k2 b (by omega), v4 b (by omega)], k3.cg (by rw [v4 12 (by decide)]) (fun f hf => ?_)⟩
    constructor
    · rintro ⟨t, ht, hv, hp⟩
      obtain ⟨k, hk, ek⟩ := v6 _ hv
      exact ⟨k, by omega, hk, t, ht, ek, hp⟩
    · rintro ⟨k, -, hk, t, ht, ek, hp⟩
      have := v5 k hk
      rw [ek] at this
      exact ⟨t, ht, this, hp⟩
  · intro fu m1 h
    have L : fX9_laysWays_b28 (fu + 1) m1 (nI a) (nI σ) g (nI cnt) (nI cnt) = fX9_laysWays_b28_s (fX9_laysWays_b28 fu) m1 (nI a) (nI σ) g (nI cnt) (nI cnt) := rfl
    rw [L]
    unfold fX9_laysWays_b28_s
    rw [if_pos (nI_le (Nat.le_refl _) (by omega))]
    exact ⟨m1, rfl, h, Ad.rf rfl (fun f _ ⟨k', h1, h2, _⟩ => by omega)⟩
  · intro fu k hk ih m1 h
    have L : fX9_laysWays_b28 (fu + 1) m1 (nI a) (nI σ) g (nI cnt) (nI k) = fX9_laysWays_b28_s (fX9_laysWays_b28 fu) m1 (nI a) (nI σ) g (nI cnt) (nI k) := rfl
    rw [L]
    unfold fX9_laysWays_b28_s fX9_laysWays_b61
    rw [if_neg (show ¬ nI cnt ≤ nI k from nI_ge hk (by omega)), gd_nI (by omega) (by decide), gd_nI (by omega) (by decide), nI_clamp (by omega), h 8 (by decide)]
    have ms : ∀ b, b ≤ 7 → m1 b = m b := fun b hb => by rw [h b (by omega), v4 b (by omega), hs b hb]
    rcases hE.2.2 σ s _ hsp (v5 k hk) with e | ⟨t, ht, e⟩
    · have e0 : fX9_laysWays_b102 (fX9_laysWays_b28 fu) 2000 m1 (nI a) (nI σ) g (nI cnt) (nI k) 0 0 = fX9_laysWays_b28 fu m1 (nI a) (nI σ) g (nI cnt) (nI k + 1) := by
        have L2 : fX9_laysWays_b102 (fX9_laysWays_b28 fu) 2000 m1 (nI a) (nI σ) g (nI cnt) (nI k) 0 0 = fX9_laysWays_b102_s (fX9_laysWays_b28 fu) (fX9_laysWays_b102 (fX9_laysWays_b28 fu) 1999) m1 (nI a) (nI σ) g (nI cnt) (nI k) 0 0 := rfl
        rw [L2]
        unfold fX9_laysWays_b102_s
        rw [if_pos (by decide)]
      rw [e, if_neg (by decide), if_neg (by decide), gd_nI (by omega) (by decide), e0, na1]
      obtain ⟨m', k1, k2, k3⟩ := ih m1 h
      refine ⟨m', k1, k2, k3.cg rfl (fun f hf => ?_)⟩
      constructor
      · rintro ⟨k', h1, h2, t, ht, e2, h3⟩
        by_cases ek : k' = k
        · subst ek
          rw [e, m1n (by omega)] at e2
          exact e2.elim
        · exact ⟨k', by omega, h2, t, ht, e2, h3⟩
      · rintro ⟨k', h1, h2, h3⟩
        exact ⟨k', by omega, h2, h3⟩
    · have hx : cAt t a 2 < 96 := cAt_lt ht
      have t0 : (0 : Int32) ≤ nI t := nI_le (a := 0) (by omega) (by omega)
      obtain ⟨M2, c2, w1, w2, w3, w4, w5, w6⟩ := vals_sp (mm := m1) (key := nI (cAt t a 2)) (now := m 1 (cAt t a 2)) (B := 9) hE.1 hσ (by decide) ms
      rw [e, if_pos t0, show fX9_place (nI t) (nI a) 2 = some (nI (cAt t a 2)) from place_at (l := 2) (by decide) ha, bd_eq, gd_nI (by omega) (by decide), if_pos t0, i0, gd_nI (by omega) (by decide), nI_clamp (by omega), ms 1 (by decide), w1, bw_eq]
      obtain ⟨m3, l1, l2, l3⟩ := b102_sp (M := M2) (g := g) (x5 := nI cnt) (x6 := nI k) hE hσ (fun b hb => by rw [w4 b (by omega), ms b hb]) ha ht w3 w5 w6 (fX9_laysWays_b28 fu)
      rw [l1, na1]
      obtain ⟨m', k1, k2, k3⟩ := ih m3 (fun b hb => by rw [l2 b (by omega) (by omega) (by omega), w4 b (by omega), h b hb])
      refine ⟨m', k1, k2, (l3.cg (Q := Fr m q base σ g a 2 t) (n := m1) (by rw [w4 12 (by decide)]) (fun f hf => Iff.rfl)).tr k3 (fun f hf => ?_)⟩
      constructor
      · rintro ⟨k', h1, h2, t', ht', e2, h3⟩
        by_cases ek : k' = k
        · subst ek
          rw [e] at e2
          rw [nI_inj (by omega) (by omega) e2]
          exact Or.inl h3
        · exact Or.inr ⟨k', by omega, h2, t', ht', e2, h3⟩
      · rintro (h1 | ⟨k', h1, h2, h3⟩)
        · exact ⟨k, by omega, hk, t, ht, e, h1⟩
        · exact ⟨k', by omega, h2, h3⟩
/-- all that is permitted -/
def Pm (m : Mm) (q base σ τ : Nat) (a s f : Nat) : Prop := Wy m q base σ 0 a s f ∨ ∃ s', s' < 6 ∧ Wy m q base τ 1 a s' f
theorem clr_lp {m : Mm} {s a : Nat} {r : Mm × Unit} (hs : s < 6) (ha : a < 512) (hend : bw (fX9_laysWays (flm m 1100 12 0) (nI s) (nI a) (fX9_later (m 0 8) (fX9_later (m 6 s) (m 7 (512 * s + a)))) 0) (fun m6 _ => fX9_laysPermitted_b62 2000 m6 (nI a) 0) = some r) : fX9_laysPermitted m (nI s) (nI a) = some r := by
  have key := down (P := fun fu k => fX9_laysPermitted_b2 fu (flm m k 12 0) (nI s) (nI a) (nI k) = some r) 1100 ?_ ?_ 1100 0 2000 (by decide) (by decide)
  · have e : flm m 0 12 0 = m := by
      funext b i
      unfold flm
      rw [if_neg (by omega)]
    rw [e] at key
    exact key
  · intro fu
    have L : fX9_laysPermitted_b2 (fu + 1) (flm m 1100 12 0) (nI s) (nI a) (nI 1100) = fX9_laysPermitted_b2_s (fX9_laysPermitted_b2 fu) (flm m 1100 12 0) (nI s) (nI a) (nI 1100) := rfl
    rw [L]
    unfold fX9_laysPermitted_b2_s
    have fb : ∀ b, b ≠ 12 → flm m 1100 12 0 b = m b := fun b hb => by
      funext i
      unfold flm
      rw [if_neg (fun z => hb z.1)]
    have iz : (512 : Int32) * nI s + nI a = nI (512 * s + a) := by
      rw [show (512 : Int32) = nI 512 from rfl, nI_mul, nI_add]
    rw [if_pos (by decide), iz, gd_nI hs (by decide), gd_nI (by omega) (by decide), lk_eq, nI_clamp (by omega), nI_clamp (by omega), fb 0 (by decide), fb 6 (by decide), fb 7 (by decide)]
    exact hend
  · intro fu k hk ih
    have L : fX9_laysPermitted_b2 (fu + 1) (flm m k 12 0) (nI s) (nI a) (nI k) = fX9_laysPermitted_b2_s (fX9_laysPermitted_b2 fu) (flm m k 12 0) (nI s) (nI a) (nI k) := rfl
    rw [L]
    unfold fX9_laysPermitted_b2_s
    have e : wr (flm m k 12 0) 12 k 0 = flm m (k + 1) 12 0 := by
      funext b i
      by_cases e1 : b = 12
      · subst e1
        by_cases e2 : i = k
        · subst e2
          rw [wr_same]
          unfold flm
          rw [if_pos ⟨rfl, by omega⟩]
        · rw [wr_i _ _ _ e2]
          unfold flm
          by_cases h : i < k
          · rw [if_pos ⟨rfl, h⟩, if_pos ⟨rfl, by omega⟩]
          · rw [if_neg (by omega), if_neg (by omega)]
      · rw [wr_b _ _ _ _ e1]
        unfold flm
        rw [if_neg (fun z => e1 z.1), if_neg (fun z => e1 z.1)]
    rw [if_neg (show ¬ (1100 : Int32) ≤ nI k from nI_ge (b := 1100) hk (by decide)), gd_nI hk (by decide), wk_eq, nI_clamp (by omega), e, na1]
    exact ih
theorem lays_sp {m : Mm} {q base σ τ a s : Nat} (hE : Ev m q base) (hσ : σ ≤ 600) (hτ : τ ≤ 600) (ha : a < 512) (hs : s < 6) (eσ : fX9_later (m 0 8) (fX9_later (m 6 s) (m 7 (512 * s + a))) = nI σ) (eτ : m 0 8 = nI τ) : ∃ m', fX9_laysPermitted m (nI s) (nI a) = some (m', ()) ∧ (∀ b, b ≤ 7 → m' b = m b) ∧ ∀ f, f < 1100 → (m' 12 f = 1 ∧ Pm m q base σ τ a s f) ∨ (m' 12 f = 0 ∧ ¬ Pm m q base σ τ a s f) := by
  have fb : ∀ b, b ≠ 12 → flm m 1100 12 0 b = m b := fun b hb => by
    funext i
    unfold flm
    rw [if_neg (fun z => hb z.1)]
  have f0 : ∀ f, f < 1100 → flm m 1100 12 0 12 f = 0 := fun f hf => if_pos ⟨rfl, hf⟩
  obtain ⟨m6, w1, w2, w3⟩ := ways_sp (mm := flm m 1100 12 0) (g := 0) hE hσ (fun b hb => fb b (by omega)) ha hs
  have key := down (P := fun fu k => ∀ m1 : Mm, (∀ b, b ≤ 7 → m1 b = m b) → ∃ m', fX9_laysPermitted_b62 fu m1 (nI a) (nI k) = some (m', ()) ∧ (∀ b, b ≤ 7 → m' b = m b) ∧ Ad (fun f => ∃ k', k ≤ k' ∧ k' < 6 ∧ Wy m q base τ 1 a k' f) m1 m') 6 ?_ ?_ 6 0 2000 (by decide) (by decide) m6 (fun b hb => by rw [w2 b hb, fb b (by omega)])
  · obtain ⟨m', k1, k2, k3⟩ := key
    refine ⟨m', clr_lp hs ha (by rw [eσ, w1, bw_eq]; exact k1), k2, fun f hf => ?_⟩
    have A : Ad (Pm m q base σ τ a s) (flm m 1100 12 0) m' := w3.tr k3 (fun f hf => by
      unfold Pm
      constructor
      · rintro (h | ⟨s', h1, h2⟩)
        · exact Or.inl h
        · exact Or.inr ⟨s', by omega, h1, h2⟩
      · rintro (h | ⟨s', -, h1, h2⟩)
        · exact Or.inl h
        · exact Or.inr ⟨s', h1, h2⟩)
    obtain ⟨a1, a2⟩ := A f hf
    rw [f0 f hf] at a1 a2
    rcases a2 with a2 | a2
    · right
      refine ⟨a2, fun hp => ?_⟩
      have := a1.mpr (Or.inr hp)
      rw [a2] at this
      exact absurd this (by decide)
    · left
      exact ⟨a2, (a1.mp a2).resolve_left (by decide)⟩
  · intro fu m1 h
    have L : fX9_laysPermitted_b62 (fu + 1) m1 (nI a) (nI 6) = fX9_laysPermitted_b62_s (fX9_laysPermitted_b62 fu) m1 (nI a) (nI 6) := rfl
    rw [L]
    unfold fX9_laysPermitted_b62_s
    rw [if_pos (by decide)]
    exact ⟨m1, rfl, h, Ad.rf rfl (fun f _ ⟨k', h1, h2, _⟩ => by omega)⟩
  · intro fu k hk ih m1 h
    have L : fX9_laysPermitted_b62 (fu + 1) m1 (nI a) (nI k) = fX9_laysPermitted_b62_s (fX9_laysPermitted_b62 fu) m1 (nI a) (nI k) := rfl
    rw [L]
    unfold fX9_laysPermitted_b62_s
    obtain ⟨m2, p1, p2, p3⟩ := ways_sp (mm := m1) (g := 1) hE hτ h ha hk
    rw [if_neg (by rw [ge6F hk]; exact id), h 0 (by decide), eτ, p1, bw_eq, na1]
    obtain ⟨m', k1, k2, k3⟩ := ih m2 (fun b hb => by rw [p2 b hb, h b hb])
    refine ⟨m', k1, k2, p3.tr k3 (fun f hf => ?_)⟩
    constructor
    · rintro ⟨k', h1, h2, h3⟩
      by_cases e : k' = k
      · subst e; exact Or.inl h3
      · exact Or.inr ⟨k', by omega, h2, h3⟩
    · rintro (h1 | ⟨k', h1, h2, h3⟩)
      · exact ⟨k, by omega, hk, h1⟩
      · exact ⟨k', by omega, h2, h3⟩
