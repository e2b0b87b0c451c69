/-! PURE: the class gathers what is permitted -/
theorem b17g_sp {c m : Mm} {q base σ a l : Nat} {g mask : Int32} (hC : Cv c m q base) (hE : Ev m q base) (hσ : σ ≤ 600) (ha : a < 512) (hl : l < 3) (K : Mm → Int32 → Int32 → Int32 → Int32 → Int32 → Option (Mm × Unit)) : ∃ c' r, fX8_gatherFrames_b17 K 2000 c (nI a) (nI σ) g mask (nI l) 0 0 = K c' (nI a) (nI σ) g r (nI l + -1) ∧ (∀ b, b ≠ 45 → c' b = c b) ∧ AdC (fun f => ∃ t, t < 12 ∧ bt mask t = true ∧ ∃ v, Vs m q base σ (nI (cAt t a l)) (m 1 (cAt t a l)) v ∧ Pg g v f (a % 8 ^ l)) c c' ∧ ∀ u, u < 12 → (bt r u = true ↔ ∃ t, t < 12 ∧ bt mask t = true ∧ ∃ v, Vs m q base σ (nI (cAt t a l)) (m 1 (cAt t a l)) v ∧ fX9_whatOf v = 1 ∧ fX9_targetOf v = nI u) := by
  have hrs : a % 8 ^ l < 64 := by
    obtain ⟨-, -, p, q⟩ := wid_eq l hl
    exact Nat.lt_of_lt_of_le (Nat.mod_lt _ p) q
  have key := down (P := fun fu t => ∀ x7 (cc : Mm), (∀ b, b ≠ 45 → cc b = c b) → ∃ c' r, fX8_gatherFrames_b17 K fu cc (nI a) (nI σ) g mask (nI l) x7 (nI t) = K c' (nI a) (nI σ) g r (nI l + -1) ∧ (∀ b, b ≠ 45 → c' b = c b) ∧ AdC (fun f => ∃ t', t ≤ t' ∧ t' < 12 ∧ bt mask t' = true ∧ ∃ v, Vs m q base σ (nI (cAt t' a l)) (m 1 (cAt t' a l)) v ∧ Pg g v f (a % 8 ^ l)) cc c' ∧ ∀ u, u < 12 → (bt r u = true ↔ (bt x7 u = true ∨ ∃ t', t ≤ t' ∧ t' < 12 ∧ bt mask t' = true ∧ ∃ v, Vs m q base σ (nI (cAt t' a l)) (m 1 (cAt t' a l)) v ∧ fX9_whatOf v = 1 ∧ fX9_targetOf v = nI u))) 12 ?_ ?_ 12 0 2000 (by decide) (by decide) 0 c (fun _ _ => rfl)
  · obtain ⟨c', r, k1, k2, k3, k4⟩ := key
    refine ⟨c', r, k1, k2, k3.cg (fun f hf => ?_), fun u hu => ?_⟩
    · exact ⟨fun ⟨t, t1, t2⟩ => ⟨t, by omega, t1, t2⟩, fun ⟨t, _, t1, t2⟩ => ⟨t, t1, t2⟩⟩
    · rw [k4 u hu, b_0]
      exact ⟨fun h => by
        rcases h with h | ⟨t, -, t1, t2⟩
        · cases h
        · exact ⟨t, t1, t2⟩, fun ⟨t, t1, t2⟩ => Or.inr ⟨t, by omega, t1, t2⟩⟩
  · intro fu x7 cc hcc
    have L : fX8_gatherFrames_b17 K (fu + 1) cc (nI a) (nI σ) g mask (nI l) x7 (nI 12) = fX8_gatherFrames_b17_s K (fX8_gatherFrames_b17 K fu) cc (nI a) (nI σ) g mask (nI l) x7 (nI 12) := rfl
    rw [L]
    unfold fX8_gatherFrames_b17_s
    rw [if_pos (by decide)]
    exact ⟨cc, x7, rfl, hcc, AdC.rf rfl (fun f _ ⟨t, t1, t2, _⟩ => by omega), fun u hu => ⟨Or.inl, fun h => h.resolve_right (fun ⟨t, t1, t2, _⟩ => by omega)⟩⟩
  · intro fu t ht ih x7 cc hcc
    have L : fX8_gatherFrames_b17 K (fu + 1) cc (nI a) (nI σ) g mask (nI l) x7 (nI t) = fX8_gatherFrames_b17_s K (fX8_gatherFrames_b17 K fu) cc (nI a) (nI σ) g mask (nI l) x7 (nI t) := rfl
    rw [L]
    unfold fX8_gatherFrames_b17_s
    have eb : fX8_bitOf (nI t) = (1 : Int32) <<< (nI t &&& 31) := by
      unfold fX8_bitOf
      rw [if_neg (by rw [m1ne (by omega)]; exact id)]
    rw [if_neg (show ¬ (12 : Int32) ≤ nI t from nI_ge (b := 12) ht (by decide)), eb, na1]
    by_cases hm : bt mask t = false
    · rw [if_pos ((and_bit (by omega)).mpr hm)]
      obtain ⟨c', r, k1, k2, k3, k4⟩ := ih x7 cc hcc
      refine ⟨c', r, k1, k2, k3.cg (fun f hf => ?_), fun u hu => ?_⟩
      · constructor
        · rintro ⟨t', t1, t2, t3, t4⟩
          by_cases e : t' = t
          · subst e; rw [hm] at t3; cases t3
          · exact ⟨t', by omega, t2, t3, t4⟩
        · rintro ⟨t', t1, t2⟩
          exact ⟨t', by omega, t2⟩
      · rw [k4 u hu]
        constructor
        · rintro (h | ⟨t', t1, t2⟩)
          · exact Or.inl h
          · exact Or.inr ⟨t', by omega, t2⟩
        · rintro (h | ⟨t', t1, t2, t3, t4⟩)
          · exact Or.inl h
          · by_cases e : t' = t
            · subst e; rw [hm] at t3; cases t3
            · exact Or.inr ⟨t', by omega, t2, t3, t4⟩
    · have hm' : bt mask t = true := by
        cases h : bt mask t
        · exact absurd h hm
        · rfl
      rw [if_neg (fun z => hm ((and_bit (by omega)).mp z)), cell_at hl ha, rest_eq l hl a ha]
      obtain ⟨c2, r2, y1, y2, y3, y4⟩ := gcell_sp (g := g) (hC.cg hcc) hE hσ (cAt_lt (a := a) (l := l) ht) hrs
      rw [y1, bw_eq, lk_eq]
      obtain ⟨c', r, k1, k2, k3, k4⟩ := ih (x7 ||| r2) c2 (fun b hb => by rw [y2 b hb, hcc b hb])
      refine ⟨c', r, k1, k2, y3.tr k3 (fun f hf => ?_), fun u hu => ?_⟩
      · constructor
        · rintro ⟨t', t1, t2, t3, t4⟩
          by_cases e : t' = t
          · subst e; exact Or.inl t4
          · exact Or.inr ⟨t', by omega, t2, t3, t4⟩
        · rintro (h | ⟨t', t1, t2⟩)
          · exact ⟨t, by omega, ht, hm', h⟩
          · exact ⟨t', by omega, t2⟩
      · rw [k4 u hu, b_or, Bool.or_eq_true, y4 u hu]
        constructor
        · rintro ((h | h) | ⟨t', t1, t2⟩)
          · exact Or.inl h
          · exact Or.inr ⟨t, by omega, ht, hm', h⟩
          · exact Or.inr ⟨t', by omega, t2⟩
        · rintro (h | ⟨t', t1, t2, t3, t4⟩)
          · exact Or.inl (Or.inl h)
          · by_cases e : t' = t
            · subst e; exact Or.inl (Or.inr t4)
            · exact Or.inr ⟨t', by omega, t2, t3, t4⟩
theorem gf_lp {m : Mm} {q base σ a : Nat} {g : Int32} (hE : Ev m q base) (hσ : σ ≤ 600) (ha : a < 512) : ∀ l fu (c : Mm) (mask : Int32), l < 3 → l + 1 < fu → Cv c m q base → ∃ c', fX8_gatherFrames_b6 fu c (nI a) (nI σ) g mask (nI l) = some (c', ()) ∧ (∀ b, b ≠ 45 → c' b = c b) ∧ AdC (fun f => ∃ t, t < 12 ∧ bt mask t = true ∧ Fr m q base σ g a l t f) c c' := by
  intro l
  induction l with
  | zero =>
    intro fu c mask hl hf hC
    obtain ⟨f1, rfl⟩ : ∃ f1, fu = f1 + 1 + 1 := ⟨fu - 2, by omega⟩
    have L : fX8_gatherFrames_b6 (f1 + 1 + 1) c (nI a) (nI σ) g mask (nI 0) = fX8_gatherFrames_b6_s (fX8_gatherFrames_b6 (f1 + 1)) c (nI a) (nI σ) g mask (nI 0) := rfl
    rw [L]
    unfold fX8_gatherFrames_b6_s
    obtain ⟨c', r, k1, k2, k3, k4⟩ := b17g_sp (g := g) (mask := mask) hC hE hσ ha hl (fX8_gatherFrames_b6 (f1 + 1))
    have L2 : ∀ r, fX8_gatherFrames_b6 (f1 + 1) c' (nI a) (nI σ) g r (-1) = some (c', ()) := fun r => by
      have L3 : fX8_gatherFrames_b6 (f1 + 1) c' (nI a) (nI σ) g r (-1) = fX8_gatherFrames_b6_s (fX8_gatherFrames_b6 f1) c' (nI a) (nI σ) g r (-1) := rfl
      rw [L3]
      unfold fX8_gatherFrames_b6_s
      rw [if_pos (by decide)]
    rw [if_neg (nI_pos (by decide)), k1, m1_0, L2]
    exact ⟨c', rfl, k2, k3⟩
  | succ l ih =>
    intro fu c mask hl hf hC
    obtain ⟨f1, rfl⟩ : ∃ f1, fu = f1 + 1 := ⟨fu - 1, by omega⟩
    have L : fX8_gatherFrames_b6 (f1 + 1) c (nI a) (nI σ) g mask (nI (l + 1)) = fX8_gatherFrames_b6_s (fX8_gatherFrames_b6 f1) c (nI a) (nI σ) g mask (nI (l + 1)) := rfl
    rw [L]
    unfold fX8_gatherFrames_b6_s
    obtain ⟨c1, r, k1, k2, k3, k4⟩ := b17g_sp (g := g) (mask := mask) hC hE hσ ha hl (fX8_gatherFrames_b6 f1)
    obtain ⟨c', j1, j2, j3⟩ := ih f1 c1 r (by omega) (by omega) (hC.cg k2)
    rw [if_neg (nI_pos (by omega)), k1, nm1 (by omega) (by omega), Nat.add_sub_cancel, j1]
    refine ⟨c', rfl, fun b hb => by rw [j2 b hb, k2 b hb], k3.tr j3 (fun f hf => ?_)⟩
    constructor
    · rintro ⟨t, t1, t2, v, v1, v2 | ⟨v2, u, u1, u2, u3⟩⟩
      · exact Or.inl ⟨t, t1, t2, v, v1, v2⟩
      · exact Or.inr ⟨u, u1, (k4 u u1).mpr ⟨t, t1, t2, v, v1, v2, u2⟩, u3⟩
    · rintro (⟨t, t1, t2, v, v1, v2⟩ | ⟨u, u1, u2, u3⟩)
      · exact ⟨t, t1, t2, v, v1, Or.inl v2⟩
      · obtain ⟨t, t1, t2, v, v1, v2, v3⟩ := (k4 u u1).mp u2
        exact ⟨t, t1, t2, v, v1, Or.inr ⟨v2, u, u1, v3, u3⟩⟩
theorem gf_sp {c m : Mm} {q base σ a : Nat} {g mask : Int32} (hC : Cv c m q base) (hE : Ev m q base) (hσ : σ ≤ 600) (ha : a < 512) : ∃ c', fX8_gatherFrames c (nI a) mask (nI σ) g = some (c', ()) ∧ (∀ b, b ≠ 45 → c' b = c b) ∧ AdC (fun f => ∃ t, t < 12 ∧ bt mask t = true ∧ Fr m q base σ g a 2 t f) c c' := gf_lp hE hσ ha 2 2000 c mask (by decide) (by decide) hC
theorem gp_sp {cap : Nat} {c m : Mm} {q base σ τ a s : Nat} (hC : Cv c m q base) (hE : Ev m q base) (hσ : σ ≤ 600) (hτ : τ ≤ 600) (ha : a < 512) (hs : s < 6) (eσ : ∀ c', (∀ b, b ≠ 45 → c' b = c b) → fX1_latest cap c' (nI s) (nI a) = some (nI σ)) (eτ : c 40 1 = nI τ) : ∃ c', fX8_gatherPermitted cap c (nI s) (nI a) = some (c', ()) ∧ (∀ b, b ≠ 45 → c' b = c b) ∧ ∀ f, f < 1088 → (Hs c' f ↔ Pm m q base σ τ a s f) := by
  unfold fX8_gatherPermitted fX2_clear
  have fb : ∀ b, b ≠ 45 → flm c 34 45 0 b = c b := fun b hb => by
    funext i
    unfold flm
    rw [if_neg (fun z => hb z.1)]
  have f0 : ∀ f, f < 1088 → ¬ Hs (flm c 34 45 0) f := fun f hf h => by
    unfold Hs flm at h
    rw [if_pos ⟨rfl, by omega⟩, b_0] at h
    cases h
  have hC1 := hC.cg fb
  obtain ⟨r, r1, r2⟩ := roots_sp hC1 hE hσ hs
  obtain ⟨c2, g1, g2, g3⟩ := gf_sp (g := 0) (mask := r) hC1 hE hσ ha
  have fb2 : ∀ b, b ≠ 45 → c2 b = c b := fun b hb => by rw [g2 b hb, fb b hb]
  rw [fill_sp (by decide), bw_eq, bw_eq, eσ _ fb, bd_eq, r1, bd_eq, g1, bw_eq]
  have key := down (P := fun fu k => ∀ x4, ∃ c' x4', fX8_gatherPermitted_b36 cap fu c2 (nI a) x4 (nI k) = (bw (fX8_gatherFrames c2 (nI a) x4' (nI τ) 1) (fun m3 _ => some (m3, ()))) ∧ c' = c2 ∧ ∀ u, u < 12 → (bt x4' u = true ↔ (bt x4 u = true ∨ ∃ s', k ≤ s' ∧ s' < 6 ∧ Vs m q base τ (nI (96 + s')) (m 1 (326 + s')) (nI u)))) 6 ?_ ?_ 6 0 2000 (by decide) (by decide) 0
  · obtain ⟨-, x4', k1, -, k2⟩ := key
    obtain ⟨c3, j1, j2, j3⟩ := gf_sp (c := c2) (g := 1) (mask := x4') (hC.cg fb2) hE hτ ha
    have k1' : fX8_gatherPermitted_b36 cap 2000 c2 (nI a) 0 0 = some (c3, ()) := by
      refine Eq.trans k1 ?_
      rw [j1, bw_eq]
    refine ⟨c3, k1', fun b hb => by rw [j2 b hb, fb2 b hb], fun f hf => ?_⟩
    rw [j3 f hf, g3 f hf]
    unfold Pm Wy
    constructor
    · rintro ((h | ⟨t, t1, t2, t3⟩) | ⟨t, t1, t2, t3⟩)
      · exact absurd h (f0 f hf)
      · exact Or.inl ⟨t, t1, (r2 t t1).mp t2, t3⟩
      · rcases (k2 t t1).mp t2 with h | ⟨s', -, s1, s2⟩
        · rw [b_0] at h; cases h
        · exact Or.inr ⟨s', s1, t, t1, s2, t3⟩
    · rintro (⟨t, t1, t2, t3⟩ | ⟨s', s1, t, t1, t2, t3⟩)
      · exact Or.inl (Or.inr ⟨t, t1, (r2 t t1).mpr t2, t3⟩)
      · exact Or.inr ⟨t, t1, (k2 t t1).mpr (Or.inr ⟨s', by omega, s1, t2⟩), t3⟩
  · intro fu x4
    have L : fX8_gatherPermitted_b36 cap (fu + 1) c2 (nI a) x4 (nI 6) = fX8_gatherPermitted_b36_s cap (fX8_gatherPermitted_b36 cap fu) c2 (nI a) x4 (nI 6) := rfl
    rw [L]
    unfold fX8_gatherPermitted_b36_s
    rw [if_pos (by decide), fb2 40 (by decide), eτ]
    exact ⟨c2, x4, rfl, rfl, fun u hu => ⟨Or.inl, fun h => h.resolve_right (fun ⟨s', h1, h2, _⟩ => by omega)⟩⟩
  · intro fu k hk ih x4
    have L : fX8_gatherPermitted_b36 cap (fu + 1) c2 (nI a) x4 (nI k) = fX8_gatherPermitted_b36_s cap (fX8_gatherPermitted_b36 cap fu) c2 (nI a) x4 (nI k) := rfl
    rw [L]
    unfold fX8_gatherPermitted_b36_s
    obtain ⟨r, p1, p2⟩ := roots_sp (hC.cg fb2) hE hτ hk
    rw [if_neg (by rw [ge6F hk]; exact id), fb2 40 (by decide), eτ, p1, bd_eq, lk_eq, na1]
    obtain ⟨c', x4', k1, k2, k3⟩ := ih (x4 ||| r)
    refine ⟨c', x4', k1, k2, fun u hu => ?_⟩
    rw [k3 u hu, b_or, Bool.or_eq_true, p2 u hu]
    constructor
    · rintro ((h | h) | ⟨s', h1, h2⟩)
      · exact Or.inl h
      · exact Or.inr ⟨k, by omega, hk, h⟩
      · exact Or.inr ⟨s', by omega, h2⟩
    · rintro (h | ⟨s', h1, h2, h3⟩)
      · exact Or.inl (Or.inl h)
      · by_cases e : s' = k
        · subst e; exact Or.inl (Or.inr h3)
        · exact Or.inr ⟨s', by omega, h2, h3⟩
