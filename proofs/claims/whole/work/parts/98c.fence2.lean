/-! PURE: fenceSpace and fence -/
theorem rel_mem {n cap cap' : Nat} {cm mm : Mm} (hr : Rel n cap cm mm) (hn : n < 512) (P1 P2 Q : Nat → Bool) {c1 m1 : Mm} (hc : ∀ b, b < 40 → c1 b = aC Q 4 cm b) (hm1 : m1 1 = mm 1) (hm : ∀ b, b = 3 ∨ b = 4 ∨ b = 5 → m1 b = mm b) (h6 : m1 0 6 = mm 0 6) (h7 : m1 0 7 = mm 0 7) (hF : RF (n + 1) cap' c1 m1) : Rel (n + 1) cap' (dC 17 P2 6 (dC 9 P1 6 c1)) (aM Q 4 (dM 234 P2 6 (dM 192 P1 6 m1))) := by
  apply fence_rel (cap' := cap') hr hn P1 P2 Q
  · intro b hb
    rw [dC_out (by omega), dC_out (by omega), hc b (by omega), aC_out (by omega)]
  · intro k hk
    rw [dC_out (by omega), dC_at hk, hc _ (by omega), aC_out (by omega)]
  · intro k hk i hi
    rw [dC_i hi, dC_i hi, hc _ (by omega), aC_out (by omega)]
  · intro k hk
    rw [dC_at hk, dC_out (by omega), hc _ (by omega), aC_out (by omega)]
  · intro k hk i hi
    rw [dC_i hi, dC_i hi, hc _ (by omega), aC_out (by omega)]
  · intro k hk
    rw [dC_out (by omega), dC_out (by omega), hc _ (by omega), aC_at hk]
  · intro k hk i hi
    rw [dC_out (by omega), dC_out (by omega), hc _ (by omega), aC_i hi]
  · intro i hi
    rw [aM_out (by omega), dM_out (by omega), dM_out (by omega), hm1]
  · intro k hk
    rw [aM_out (by omega), dM_out (by omega), dM_at hk, hm1]
  · intro k hk i h1 h2
    rw [aM_out (by omega), dM_out (by omega), dM_i h1 h2, hm1]
  · intro k hk
    rw [aM_out (by omega), dM_at hk, dM_out (by omega), hm1]
  · intro k hk i h1 h2
    rw [aM_out (by omega), dM_i h1 h2, dM_out (by omega), hm1]
  · intro k hk
    rw [aM_at hk, dM_out (by omega), dM_out (by omega), hm1]
  · intro k hk i h1 h2
    rw [aM_i h1 h2, dM_out (by omega), dM_out (by omega), hm1]
  · rw [aM_b (by decide), dM_b (by decide), dM_b (by decide), h6]
  · rw [aM_b (by decide), dM_b (by decide), dM_b (by decide), h7]
  · rw [aM_b (by decide), dM_b (by decide), dM_b (by decide), hm 3 (by decide)]
  · rw [aM_b (by decide), dM_b (by decide), dM_b (by decide), hm 4 (by decide)]
  · rw [aM_b (by decide), dM_b (by decide), dM_b (by decide), hm 5 (by decide)]
  · exact hF.cg (Nat.le_refl _) (by rw [dC_out (by omega), dC_out (by omega)]) (by rw [dC_out (by omega), dC_out (by omega)]) (by rw [dC_out (by omega), dC_out (by omega)]) (by rw [dC_out (by omega), dC_out (by omega)]) (by rw [aM_b (by decide), dM_b (by decide), dM_b (by decide)]) (by rw [aM_b (by decide), dM_b (by decide), dM_b (by decide)]) (by rw [aM_b (by decide), dM_b (by decide), dM_b (by decide)])
/-- what is asked of a place: the same on both sides -/
theorem pl_tag {n b q a : Nat} {c m : Mm} (h : RP n b q a c m) {k : Nat} (hk : k < 6) {tag : Int32} {Z Z' : Prop} (hz : c (b + k) 5 = m 1 (a + 7 * k + 4) → (Z ↔ Z')) : (¬ c (b + k) 0 = 0 ∧ c (b + k) 1 = tag ∧ Z) ↔ (¬ m 1 (a + 7 * k) = -1 ∧ m 1 (a + 7 * k) = tag ∧ Z') := by
  rcases h.dich hk with ⟨e1, pf, g, hg, e⟩ | ⟨e1, e⟩
  · have nm : ¬ m 1 (a + 7 * k) = -1 := by rw [e, m1ne (by omega)]; exact id
    have nf : ¬ c (b + k) 0 = 0 := by rw [e1]; decide
    rw [pf.2.2.1]
    have := hz pf.2.2.2.2.2.2.1
    exact ⟨fun x => ⟨nm, x.2.1, this.mp x.2.2⟩, fun x => ⟨nf, x.2.1, this.mpr x.2.2⟩⟩
  · exact ⟨fun x => absurd e1 x.1, fun x => absurd e x.1⟩
theorem st_fenceSpace : St_fenceSpace Rel := by
  intro n cap cm mm a1 hn hr
  have h0 : Rel n cap cm (wr mm 0 0 0) := hr.scr Sc.rf (Sm.wr0 (m := mm) 0 0 (by decide))
  unfold fX8_fenceSpace fX9_fenceSpace
  rw [wk_eq]
  generalize wr mm 0 0 0 = m0 at h0
  have hN := h0.mono
  rcases rng a1 6 (by decide) with h | ⟨s, hs, rfl⟩
  · obtain ⟨e1, e2⟩ := sp_out h
    simp only [e1, e2, eq_self, if_true]
    exact ⟨_, _, -1, rfl, rfl, hN⟩
  · obtain ⟨e1, e2⟩ := sp_in hs
    obtain ⟨q1, q2, q3, q4, q5, q6, q7, q8, q9, q10, q11⟩ := id h0
    obtain ⟨g1, g2, g3, g4⟩ := q2.1 s hs
    have w6 : ∀ i, wr m0 6 s (m0 0 7) 1 i = m0 1 i := fun i => wr_b _ _ _ _ (by decide)
    obtain ⟨tag, htag⟩ : ∃ tag, m0 1 (332 + s) = tag := ⟨_, rfl⟩
    rw [htag] at g2
    have hQ : ∀ k, k < 4 → ((fun k => decide (m0 1 (276 + 11 * k) = 1 ∧ m0 1 (276 + 11 * k + 9) = tag)) k = true ↔ (m0 1 (276 + 11 * k) = 1 ∧ m0 1 (276 + 11 * k + 9) = tag)) := fun k _ => decide_eq_true_iff
    have hP1 : ∀ k, k < 6 → ((fun k => decide (¬ m0 1 (192 + 7 * k) = -1 ∧ m0 1 (192 + 7 * k) = tag ∧ m0 1 (192 + 7 * k + 4) &&& 8 = 0)) k = true ↔ (¬ m0 1 (192 + 7 * k) = -1 ∧ m0 1 (192 + 7 * k) = tag ∧ m0 1 (192 + 7 * k + 4) &&& 8 = 0)) := fun k _ => decide_eq_true_iff
    have hP2 : ∀ k, k < 6 → ((fun k => decide (¬ m0 1 (234 + 7 * k) = -1 ∧ m0 1 (234 + 7 * k) = tag)) k = true ↔ (¬ m0 1 (234 + 7 * k) = -1 ∧ m0 1 (234 + 7 * k) = tag)) := fun k _ => decide_eq_true_iff
    generalize (fun k => decide (m0 1 (276 + 11 * k) = 1 ∧ m0 1 (276 + 11 * k + 9) = tag)) = Q at hQ
    generalize (fun k => decide (¬ m0 1 (192 + 7 * k) = -1 ∧ m0 1 (192 + 7 * k) = tag ∧ m0 1 (192 + 7 * k + 4) &&& 8 = 0)) = P1 at hP1
    generalize (fun k => decide (¬ m0 1 (234 + 7 * k) = -1 ∧ m0 1 (234 + 7 * k) = tag)) = P2 at hP2
    have eb : ∀ k, k < 6 → wr (aC Q 4 cm) 41 s (cm 37 2) (9 + k) = cm (9 + k) := fun k hk => by
      rw [wr_ne _ _ _ (by omega), aC_out (by omega)]
    have eb2 : ∀ k, k < 6 → dC 9 P1 6 (wr (aC Q 4 cm) 41 s (cm 37 2)) (17 + k) = cm (17 + k) := fun k hk => by
      rw [dC_out (by omega), wr_ne _ _ _ (by omega), aC_out (by omega)]
    have d1 : fX5_dropTag (wr (aC Q 4 cm) 41 s (cm 37 2)) 7 tag 0 = some (dC 9 P1 6 (wr (aC Q 4 cm) 41 s (cm 37 2)), nI (fa_cnt P1 6)) := dropTag_sp (q := 7) (P := P1) (fun k hk => by
      rw [show 7 + 1 + 1 + k = 9 + k by omega, eb k hk, hP1 k hk]
      exact (pl_tag q4 hk (fun e => by rw [e]; exact ⟨fun z => z.elim (fun y => absurd rfl y) id, Or.inr⟩)).symm)
    have d2 : fX5_dropTag (dC 9 P1 6 (wr (aC Q 4 cm) 41 s (cm 37 2))) 15 tag 0 = some (dC 17 P2 6 (dC 9 P1 6 (wr (aC Q 4 cm) 41 s (cm 37 2))), nI (fa_cnt P2 6)) := dropTag_sp (q := 15) (P := P2) (fun k hk => by
      rw [show 15 + 1 + 1 + k = 17 + k by omega, eb2 k hk, hP2 k hk, ← and_true (m0 1 (234 + 7 * k) = tag)]
      refine (Iff.symm ?_)
      by_cases f : cm (17 + k) 0 = 1
      · obtain ⟨r, hr8, er⟩ := (q6.2 k hk f).2.1
        exact pl_tag q5 hk (fun e => ⟨fun _ => trivial, fun _ => Or.inr (by rw [e, er]; exact and8 r hr8)⟩)
      · rcases q5.dich hk with ⟨f1, -⟩ | ⟨f0, fe⟩
        · exact absurd f1 f
        · exact ⟨fun x => absurd f0 x.1, fun x => absurd fe x.1⟩)
    refine ⟨dC 17 P2 6 (dC 9 P1 6 (wr (aC Q 4 cm) 41 s (cm 37 2))), aM Q 4 (dM 234 P2 6 (dM 192 P1 6 (wr m0 6 s (m0 0 7)))), nI (fa_cnt P1 6 + fa_cnt P2 6), ?_, ?_, ?_⟩
    · rw [e1, if_neg one_ne, gd_nI hs (by decide), nI_clamp (by omega), g2, lk_eq, abortW_sp (Q := Q) (fun k hk => by rw [hQ k hk, (q7 k hk).1, (q7 k hk).2.2.2.2.2.1]), bw_eq, gd_nI hs (by decide), wk_eq, aC_out (b := 37) (by omega), d1, bw_eq, d2, bw_eq, nI_add]
    · rw [e2, if_neg one_ne, gd_nI hs (by decide), nI_clamp (by omega), wk_eq, i332, gd_nI (by omega) (by decide), nI_clamp (by omega), lk_eq, w6, htag]
      exact b40_sp (P1 := P1) (P2 := P2) (fun k hk => by rw [w6]; exact q4.vn hk) (fun k hk => by rw [w6]; exact q5.vn hk) (fun k hk => by rw [w6, w6]; exact hP1 k hk) (fun k hk => by rw [w6]; exact hP2 k hk) (b137_sp (fun k hk => by
        rw [dM_out (by omega), dM_out (by omega), dM_out (by omega), dM_out (by omega), w6, w6]
        exact hQ k hk))
    · obtain ⟨t, t1, t2, t3, -⟩ := q9
      refine rel_mem h0 hn P1 P2 Q (fun b hb => by rw [wr_ne _ _ _ (by omega)]) (by rw [wr_ne _ _ _ (by decide)]) (fun b hb => by rw [wr_ne _ _ _ (by omega)]) (by rw [wr_b _ _ _ _ (by decide)]) (by rw [wr_b _ _ _ _ (by decide)]) ?_
      obtain ⟨r1, r2, r3, r4, k, r5, r6, r7, r8, r9, r10⟩ := q10
      unfold RF
      rw [wr_ne _ _ _ (show (40 : Nat) ≠ 41 by decide), wr_ne _ _ _ (show (42 : Nat) ≠ 41 by decide), wr_ne _ _ _ (show (43 : Nat) ≠ 41 by decide), wr_ne _ _ _ (show (0 : Nat) ≠ 6 by decide), wr_ne _ _ _ (show (7 : Nat) ≠ 6 by decide), aC_out (b := 40) (by omega), aC_out (b := 42) (by omega), aC_out (b := 43) (by omega), t2, t3]
      refine ⟨r1, r2.le (by omega), fun u hu => ?_, r4, k, by omega, r6, r7, fun j hj => ⟨(r8 j hj).1, (r8 j hj).2.le (by omega)⟩, r9, r10⟩
      by_cases e : u = s
      · subst e
        rw [wr_same, wr_same]
        exact ⟨rfl, t, by omega, rfl⟩
      · rw [wr_i _ _ _ e, wr_i _ _ _ e, aC_out (by omega)]
        exact ⟨(r3 u hu).1, (r3 u hu).2.le (by omega)⟩
/-- where a key stands -/
theorem ixo_f {cap k z j : Nat} {c : Mm} (hk : c 40 4 = nI k) (h1 : k ≤ cap) (h2 : k ≤ 512) (hcap : cap ≤ 512) (hj : j < k) (e : c 42 j = nI z) (un : ∀ i, i < j → ¬ c 42 i = nI z) : fX1_indexOf cap c (nI z) = some (nI j) := by
  have key := down (P := fun f i => i ≤ j → fX1_indexOf_b2 cap f c (nI z) (nI i) = some (nI j)) k ?_ ?_ k 0 2000 (by omega) (by omega) (Nat.zero_le _)
  · exact key
  · intro f h; omega
  · intro f i hi ih hij
    have L : fX1_indexOf_b2 cap (f + 1) c (nI z) (nI i) = fX1_indexOf_b2_s cap (fX1_indexOf_b2 cap f) c (nI z) (nI i) := rfl
    rw [L]
    unfold fX1_indexOf_b2_s
    rw [hk, if_neg (nI_ge hi (by omega)), gd_nI (by omega) (by omega), nI_clamp (by omega), na1]
    by_cases hh : i = j
    · subst hh
      rw [if_pos e]
    · rw [if_neg (un i (by omega))]
      exact ih (by omega)
theorem ixo_n {cap k z : Nat} {c : Mm} (hk : c 40 4 = nI k) (h1 : k ≤ cap) (h2 : k ≤ 512) (hcap : cap ≤ 512) (un : ∀ i, i < k → ¬ c 42 i = nI z) : fX1_indexOf cap c (nI z) = some (-1) := by
  have key := down (P := fun f i => fX1_indexOf_b2 cap f c (nI z) (nI i) = some (-1)) k ?_ ?_ k 0 2000 (by omega) (by omega)
  · exact key
  · intro f
    have L : fX1_indexOf_b2 cap (f + 1) c (nI z) (nI k) = fX1_indexOf_b2_s cap (fX1_indexOf_b2 cap f) c (nI z) (nI k) := rfl
    rw [L]
    unfold fX1_indexOf_b2_s
    rw [hk, if_pos (nI_le (Nat.le_refl _) (by omega))]
  · intro f i hi ih
    have L : fX1_indexOf_b2 cap (f + 1) c (nI z) (nI i) = fX1_indexOf_b2_s cap (fX1_indexOf_b2 cap f) c (nI z) (nI i) := rfl
    rw [L]
    unfold fX1_indexOf_b2_s
    rw [hk, if_neg (nI_ge hi (by omega)), gd_nI (by omega) (by omega), nI_clamp (by omega), na1, if_neg (un i hi)]
    exact ih
theorem note_ad {n cap s ad t : Nat} {c m : Mm} (hF : RF n cap c m) (hn : n < 512) (hs : s < 6) (had : ad < 512) (ht : t ≤ n) : ∃ cap' c', fX1_noteAddress cap c (nI s) (nI ad) (nI t) = some (cap', c') ∧ (∀ b, b < 40 → c' b = c b) ∧ RF (n + 1) cap' c' (wr m 7 (512 * s + ad) (nI t)) := by
  obtain ⟨r1, r2, r3, r4, k, r5, r6, r7, r8, r9, r10⟩ := hF
  have hz : 512 * s + ad < 3072 := by omega
  have ik : nI s * 512 + nI ad = nI (512 * s + ad) := by
    rw [show (512 : Int32) = nI 512 from rfl, nI_mul, nI_add]; congr 1; omega
  have hcap : cap ≤ 512 := by omega
  have f7 : ∀ s, s < 6 → c 41 s = m 6 s ∧ Vk (n + 1 + 1) (m 6 s) := fun s hs => ⟨(r3 s hs).1, (r3 s hs).2.le (by omega)⟩
  unfold fX1_noteAddress
  rw [ik, lk_eq]
  rcases r10 (512 * s + ad) hz with ⟨j, hj, ej, -⟩ | ⟨no, -⟩
  · rw [ixo_f r7 r6 (by omega) hcap hj ej (fun i hi e => by have := r9 i j (by omega) hj (e.trans ej.symm); omega), bd_eq, if_neg (by rw [m1ne (by omega)]; exact id), gd_nI (by omega) (by omega), wk_eq, nI_clamp (by omega)]
    refine ⟨_, _, rfl, fun b hb => wr_ne _ _ _ (by omega), ?_⟩
    unfold RF
    rw [wr_ne _ _ _ (show (40 : Nat) ≠ 43 by decide), wr_ne _ _ _ (show (41 : Nat) ≠ 43 by decide), wr_ne _ _ _ (show (42 : Nat) ≠ 43 by decide), wr_ne _ _ _ (show (0 : Nat) ≠ 7 by decide), wr_ne _ _ _ (show (6 : Nat) ≠ 7 by decide)]
    refine ⟨r1, r2.le (by omega), f7, r4, k, by omega, r6, r7, fun i hi => ⟨(r8 i hi).1, ?_⟩, r9, fun z hz2 => ?_⟩
    · by_cases e : i = j
      · subst e
        rw [wr_same]
        exact ⟨t, by omega, rfl⟩
      · rw [wr_i _ _ _ e]
        exact (r8 i hi).2.le (by omega)
    · by_cases e : z = 512 * s + ad
      · subst e
        left
        exact ⟨j, hj, ej, by rw [wr_same, wr_same]⟩
      · rw [wr_i _ _ _ e]
        rcases r10 z hz2 with ⟨i, hi, ei, e2⟩ | h
        · left
          refine ⟨i, hi, ei, ?_⟩
          have hij : i ≠ j := fun h => by
            subst h
            exact e (nI_inj (by omega) (by omega) (ei.symm.trans ej))
          rw [wr_i _ _ _ hij]
          exact e2
        · exact Or.inr h
  · rw [ixo_n r7 r6 (by omega) hcap no, bd_eq, if_pos rfl, r7, if_pos (show nI k < (512 : Int32) from nI_lt (b := 512) (by omega) (by decide))]
    have b80 : ∀ (cap2 : Nat) (c2 : Mm), c2 40 4 = nI k → k < cap2 → cap2 ≤ 512 → fX1_noteAddress_b80 cap2 c2 (nI t) (nI (512 * s + ad)) = some (cap2, wr (wr (wr c2 40 4 (nI (k + 1))) 42 k (nI (512 * s + ad))) 43 k (nI t)) := by
      intro cap2 c2 h1 h2 h3
      unfold fX1_noteAddress_b80
      rw [lk_eq, wk_eq, h1, gd_nI h2 (by omega), wk_eq, gd_nI h2 (by omega), wk_eq, nI_clamp (by omega), na1]
    have fin : ∀ (cap2 : Nat) (c2 : Mm), k < cap2 → (cap2 = 8 ∨ cap2 = 16 ∨ cap2 = 32 ∨ cap2 = 64 ∨ cap2 = 128 ∨ cap2 = 256 ∨ cap2 = 512) → (∀ b, b ≠ 42 → b ≠ 43 → c2 b = c b) → (∀ j, j < k → c2 42 j = c 42 j ∧ c2 43 j = c 43 j) → (∀ b, b < 40 → wr (wr (wr c2 40 4 (nI (k + 1))) 42 k (nI (512 * s + ad))) 43 k (nI t) b = c b) ∧ RF (n + 1) cap2 (wr (wr (wr c2 40 4 (nI (k + 1))) 42 k (nI (512 * s + ad))) 43 k (nI t)) (wr m 7 (512 * s + ad) (nI t)) := by
      intro cap2 c2 h1 h2 h3 h4
      refine ⟨fun b hb => by rw [wr_ne _ _ _ (by omega), wr_ne _ _ _ (by omega), wr_ne _ _ _ (by omega), h3 b (by omega) (by omega)], ?_⟩
      have e42 : ∀ j, wr (wr (wr c2 40 4 (nI (k + 1))) 42 k (nI (512 * s + ad))) 43 k (nI t) 42 j = if j = k then nI (512 * s + ad) else c2 42 j := fun j => by
        rw [wr_b _ _ _ _ (by decide)]
        by_cases e : j = k
        · subst e
          rw [wr_same, if_pos rfl]
        · rw [wr_i _ _ _ e, if_neg e, wr_b _ _ _ _ (by decide)]
      have e43 : ∀ j, wr (wr (wr c2 40 4 (nI (k + 1))) 42 k (nI (512 * s + ad))) 43 k (nI t) 43 j = if j = k then nI t else c2 43 j := fun j => by
        by_cases e : j = k
        · subst e
          rw [wr_same, if_pos rfl]
        · rw [wr_i _ _ _ e, if_neg e, wr_b _ _ _ _ (by decide), wr_b _ _ _ _ (by decide)]
      unfold RF
      rw [wr_ne _ _ _ (show (40 : Nat) ≠ 43 by decide), wr_ne _ _ _ (show (41 : Nat) ≠ 43 by decide), wr_ne _ _ _ (show (40 : Nat) ≠ 42 by decide), wr_ne _ _ _ (show (41 : Nat) ≠ 42 by decide), wr_ne _ _ _ (show (41 : Nat) ≠ 40 by decide), wr_ne _ _ _ (show (0 : Nat) ≠ 7 by decide), wr_ne _ _ _ (show (6 : Nat) ≠ 7 by decide), wr_i _ _ _ (show (1 : Nat) ≠ 4 by decide), wr_same, h3 40 (by decide) (by decide), h3 41 (by decide) (by decide)]
      refine ⟨r1, r2.le (by omega), f7, h2, k + 1, by omega, by omega, rfl, fun j hj => ?_, fun i j hi hj e => ?_, fun z hz2 => ?_⟩
      · rw [e42, e43]
        by_cases e : j = k
        · rw [if_pos e, if_pos e]
          exact ⟨⟨_, hz, rfl⟩, t, by omega, rfl⟩
        · rw [if_neg e, if_neg e, (h4 j (by omega)).1, (h4 j (by omega)).2]
          exact ⟨(r8 j (by omega)).1, (r8 j (by omega)).2.le (by omega)⟩
      · rw [e42, e42] at e
        by_cases ei : i = k
        · by_cases ej : j = k
          · omega
          · rw [if_pos ei, if_neg ej, (h4 j (by omega)).1] at e
            exact absurd e.symm (no j (by omega))
        · by_cases ej : j = k
          · rw [if_neg ei, if_pos ej, (h4 i (by omega)).1] at e
            exact absurd e (no i (by omega))
          · rw [if_neg ei, if_neg ej, (h4 i (by omega)).1, (h4 j (by omega)).1] at e
            exact r9 i j (by omega) (by omega) e
      · by_cases e : z = 512 * s + ad
        · subst e
          left
          exact ⟨k, by omega, by rw [e42, if_pos rfl], by rw [wr_same, e43, if_pos rfl]⟩
        · rw [wr_i _ _ _ e]
          rcases r10 z hz2 with ⟨i, hi, ei, e2⟩ | ⟨h, e2⟩
          · left
            exact ⟨i, by omega, by rw [e42, if_neg (by omega), (h4 i hi).1]; exact ei, by rw [e43, if_neg (by omega), (h4 i hi).2]; exact e2⟩
          · right
            refine ⟨fun j hj => ?_, e2⟩
            rw [e42]
            by_cases ej : j = k
            · rw [if_pos ej]
              exact fun h => e (nI_inj (by omega) (by omega) h).symm
            · rw [if_neg ej, (h4 j (by omega)).1]
              exact h j (by omega)
    by_cases hkc : k = cap
    · rw [if_pos (show nI k = Int32.ofNat cap from by rw [hkc]; rfl)]
      unfold ngr
      rw [if_pos (by omega)]
      have e40 : grm cap c 40 4 = nI k := by
        unfold grm
        rw [if_neg (by decide)]; exact r7
      show ∃ cap' c', fX1_noteAddress_b80 (2 * cap) (grm cap c) (nI t) (nI (512 * s + ad)) = some (cap', c') ∧ (∀ b, b < 40 → c' b = c b) ∧ RF (n + 1) cap' c' (wr m 7 (512 * s + ad) (nI t))
      rw [b80 (2 * cap) (grm cap c) e40 (by omega) (by omega)]
      obtain ⟨y1, y2⟩ := fin (2 * cap) (grm cap c) (by omega) (by omega) (fun b hb hb2 => by
        funext i
        unfold grm
        rw [if_neg (by omega)]) (fun j hj => by
        unfold grm
        rw [if_pos (by decide), if_pos (by omega), if_pos (by decide), if_pos (by omega)]
        exact ⟨rfl, rfl⟩)
      exact ⟨_, _, rfl, y1, y2⟩
    · rw [if_neg (show ¬ nI k = Int32.ofNat cap from fun h => hkc (nI_inj (b := cap) (by omega) (by omega) h)), b80 cap c r7 (by omega) hcap]
      obtain ⟨y1, y2⟩ := fin cap c (by omega) r4 (fun b _ _ => rfl) (fun j _ => ⟨rfl, rfl⟩)
      exact ⟨_, _, rfl, y1, y2⟩
