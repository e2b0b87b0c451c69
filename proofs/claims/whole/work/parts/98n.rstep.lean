/-! PURE: readEntry and reads -/
theorem read_step {n B cap w a wa g tg l t r : Nat} {c m : Mm} (hC : Core n B cap c m) (hB : B + 1 < 2 ^ 30) (hw : 24 ≤ w ∧ w ≤ 32) (hW : WS w a wa g tg l t r c m) (held : ∃ s, s < 6 ∧ m 1 (332 + s) = nI tg) : ∃ c' m' res, fX8_readEntry c w 1 = some (c', ()) ∧ fX9_reads m (nI tg) (nI a) (nI wa) (nI g) = some (m', res) ∧ (∃ d, c' w 8 = c w 8 + d ∧ m' 0 14 = m 0 14 + d) ∧ Fin n (B + 1) cap w l c m c' m' res := by
  obtain ⟨h0, h1, h2, h3, h4, h5, h6, h7, m11, m12, m13, m16, ha, hwa, hg, htg, hl, ht, hr⟩ := hW
  have hx : cAt t a l < 96 := cAt_lt ht
  obtain ⟨x, ex⟩ : ∃ x, cAt t a l = x := ⟨_, rfl⟩
  have ecl := cell_at (t := t) hl ha
  have epl := place_at (t := t) hl ha
  rw [ex] at hx ecl epl
  obtain ⟨gc1, gc2, vc, mk, hmk, emk⟩ := hC.1 x hx
  obtain ⟨code, eco⟩ : ∃ code, m 1 x = code := ⟨_, rfl⟩
  rw [eco] at gc1 vc
  obtain ⟨ro, hro, er⟩ : ∃ ro, ro < 16 ∧ fX9_rightsOf code = nI ro := by
    rcases vc.parts with ⟨-, -, h⟩ | ⟨-, -, h⟩ | ⟨-, -, h⟩
    · exact ⟨0, by decide, h⟩
    · exact h
    · exact h
  have hrr : r &&& ro < 8 := Nat.lt_of_le_of_lt Nat.and_le_left hr
  unfold fX8_readEntry fX9_reads
  rw [h6, h1, h5, ecl, lk_eq, gd_nI hx (by decide), nI_clamp (by omega), gc1, lk_eq, h7, right_eq, er, fa_and, lk_eq, wk_eq, lk_eq]
  rw [m12, m11, epl, bd_eq, i0, gd_nI (by omega) (by decide), nI_clamp (by omega), eco, lk_eq, lk_eq, wk_eq]
  rw [wr_i _ _ _ (show (5 : Nat) ≠ 8 by decide), wr_i _ _ _ (show (2 : Nat) ≠ 8 by decide), wr_i _ _ _ (show (3 : Nat) ≠ 8 by decide), wr_i _ _ _ (show (11 : Nat) ≠ 14 by decide), h5, h2, h3, m11]
  unfold fX8_faultOf
  rw [kind_eq]
  by_cases k0 : fX9_whatOf code = 0
  · rw [if_pos k0, if_neg (show ¬ (2 : Int32) = 0 by decide), if_pos k0]
    unfold fX9_reads_b60 fX6_fail
    rw [if_pos k0, wk_eq, wk_eq, wk_eq, bw_eq]
    exact ⟨_, _, _, rfl, rfl, ⟨1, by simp (disch := omega) only [wr_same, wr_i, wr_b], by simp (disch := omega) only [wr_same, wr_i, wr_b]⟩, rd_fault hC hB hw (fun b hb => by rw [wr_ne _ _ _ hb, wr_ne _ _ _ hb]) (fun i hi => by simp (disch := omega) only [wr_same, wr_i, wr_b]) (by simp (disch := omega) only [wr_same, wr_i, wr_b]) (Or.inl rfl)⟩
  rw [if_neg k0, if_neg k0]
  by_cases k10 : fX9_whatOf code = 1 ∧ nI l = 0
  · rw [if_pos k10.1, if_pos k10.2, if_neg (show ¬ (3 : Int32) = 0 by decide), if_pos k10.1, if_pos k10.2]
    unfold fX9_reads_b60 fX6_fail
    rw [if_neg k0, wk_eq, wk_eq, wk_eq, bw_eq]
    exact ⟨_, _, _, rfl, rfl, ⟨1, by simp (disch := omega) only [wr_same, wr_i, wr_b], by simp (disch := omega) only [wr_same, wr_i, wr_b]⟩, rd_fault hC hB hw (fun b hb => by rw [wr_ne _ _ _ hb, wr_ne _ _ _ hb]) (fun i hi => by simp (disch := omega) only [wr_same, wr_i, wr_b]) (by simp (disch := omega) only [wr_same, wr_i, wr_b]) (Or.inr (Or.inl rfl))⟩
  have e1 : (if fX9_whatOf code = 1 then if nI l = 0 then (3 : Int32) else if nI wa &&& (nI (r &&& ro) ^^^ -1) = 0 then 0 else 4 else if nI wa &&& (nI (r &&& ro) ^^^ -1) = 0 then 0 else 4) = if nI wa &&& (nI (r &&& ro) ^^^ -1) = 0 then 0 else 4 := by
    by_cases h : fX9_whatOf code = 1
    · rw [if_pos h, if_neg (fun z => k10 ⟨h, z⟩)]
    · rw [if_neg h]
  have e2 : ∀ (P Q : Option (Mm × Int32)), (if fX9_whatOf code = 1 then if nI l = 0 then P else Q else Q) = Q := fun P Q => by
    by_cases h : fX9_whatOf code = 1
    · rw [if_pos h, if_neg (fun z => k10 ⟨h, z⟩)]
    · rw [if_neg h]
  have hk1 : fX9_whatOf code = 1 → 0 < l := fun h => by
    rcases Nat.eq_zero_or_pos l with z | z
    · exact absurd ⟨h, by rw [z]; rfl⟩ k10
    · exact z
  rw [e1, e2]
  unfold fX9_reads_b76
  rw [wk_eq, wr_i _ _ _ (show (13 : Nat) ≠ 14 by decide), m13, er, fa_and, wr_same]
  by_cases kl : ¬ nI wa &&& (nI (r &&& ro) ^^^ -1) = 0
  · rw [if_neg kl, if_neg (show ¬ (4 : Int32) = 0 by decide), if_neg kl, wk_eq]
    unfold fX6_fail
    rw [wk_eq, wk_eq, bw_eq]
    exact ⟨_, _, _, rfl, rfl, ⟨1, by simp (disch := omega) only [wr_same, wr_i, wr_b], by simp (disch := omega) only [wr_same, wr_i, wr_b]⟩, rd_fault hC hB hw (fun b hb => by rw [wr_ne _ _ _ hb, wr_ne _ _ _ hb, wr_ne _ _ _ hb]) (fun i hi => by simp (disch := omega) only [wr_same, wr_i, wr_b]) (by simp (disch := omega) only [wr_same, wr_i, wr_b]) (Or.inr (Or.inr rfl))⟩
  have kl := Decidable.not_not.mp kl
  rw [if_pos kl, if_pos rfl, if_pos kl]
  have m1b : ∀ i, wr (wr m 0 14 (m 0 14 + 1)) 0 13 (nI (r &&& ro)) 1 i = m 1 i := fun i => by simp (disch := omega) only [wr_same, wr_i, wr_b]
  rcases (show g = 0 ∨ g = 1 by omega) with rfl | rfl
  · rw [show (nI 0 : Int32) = 0 from rfl, if_pos rfl, if_pos rfl]
    obtain ⟨c2, s1, s2, s3, s4, s5, s6⟩ := setm_live (c := wr c w 8 (c w 8 + 1)) (w := w) (x := x) (mk := mk) (by omega) hx hmk (by rw [wr_b _ _ _ _ (by omega)]; exact gc2.trans emk)
    rw [wr_b _ _ _ _ (show (1 : Nat) ≠ w by omega), gc1, wr_i _ _ _ (show (2 : Nat) ≠ 8 by decide), h2] at s2 s4
    rw [s1, bw_eq, setm_ref (wa := nI wa) hx hmk (by rw [m1b]; exact emk)]
    obtain ⟨s, hs⟩ : ∃ s, sOf (fX9_whatOf code) (nI wa) = s := ⟨_, rfl⟩
    have hs2 := sOf_c (fX9_whatOf code) (nI wa)
    rw [hs] at s2 s4 hs2 ⊢
    have hm4 : mk ||| s < 4 ∧ ¬ (nI (mk ||| s) &&& 1 = 0) := by
      rcases hs2 with rfl | rfl
      · exact (mk1 mk hmk).2.2.2.2
      · exact (mk3 mk hmk).2.2.2.2
    obtain ⟨δ, eδ⟩ : ∃ δ : Int32, (if mk ||| s = mk then (0 : Int32) else 1) = δ := ⟨_, rfl⟩
    rw [eδ] at s4 ⊢
    obtain ⟨m2, em2⟩ : ∃ m2, wr (wr (wr (wr m 0 14 (m 0 14 + 1)) 0 13 (nI (r &&& ro))) 0 14 (wr (wr m 0 14 (m 0 14 + 1)) 0 13 (nI (r &&& ro)) 0 14 + δ)) 1 (96 + x) (nI (mk ||| s)) = m2 := ⟨_, rfl⟩
    rw [em2]
    have a1 : ∀ i, i ≠ 96 + x → m2 1 i = m 1 i := fun i hi => by rw [← em2]; simp (disch := omega) only [wr_same, wr_i, wr_b]
    have a2 : m2 1 (96 + x) = nI (mk ||| s) := by rw [← em2]; simp (disch := omega) only [wr_same, wr_i, wr_b]
    have a3 : m2 0 14 = m 0 14 + 1 + δ := by rw [← em2]; simp (disch := omega) only [wr_same, wr_i, wr_b]
    have a4 : m2 0 13 = nI (r &&& ro) := by rw [← em2]; simp (disch := omega) only [wr_same, wr_i, wr_b]
    have a5 : ∀ i, i ≠ 13 → i ≠ 14 → m2 0 i = m 0 i := fun i h1 h2 => by rw [← em2]; simp (disch := omega) only [wr_same, wr_i, wr_b]
    have a6 : ∀ b, 2 ≤ b → m2 b = m b := fun b hb => by
      rw [← em2, wr_ne _ _ _ (by omega), wr_ne _ _ _ (by omega), wr_ne _ _ _ (by omega), wr_ne _ _ _ (by omega)]
    have cb : ∀ b, b ≠ 2 → b ≠ w → c2 b = c b := fun b h1 h2 => by rw [s6 b h1 h2, wr_ne _ _ _ h2]
    have cw : ∀ i, i ≠ 8 → c2 w i = c w i := fun i hi => by rw [s5 i hi, wr_i _ _ _ hi]
    have hC2 : Core n B cap c2 m2 := by
      refine hC.cg (by omega) (fun i hi => ?_) (fun b h1 h2 => cb b h1 (by omega)) (fun i hi => a1 i (by omega)) (a5 6 (by decide) (by decide)) (a5 7 (by decide) (by decide)) (a5 8 (by decide) (by decide)) (fun b h1 h2 => a6 b (by omega))
      rw [cb 1 (by decide) (by omega), a1 i (by omega)]
      obtain ⟨r1, r2, r3, r4⟩ := hC.1 i hi
      by_cases e : i = x
      · subst e
        rw [s2, a2]
        exact ⟨r1, rfl, r3, ⟨_, hm4.1, rfl⟩⟩
      · rw [s3 i e, wr_b _ _ _ _ (by omega), a1 _ (by omega)]
        exact ⟨r1, r2, r3, r4⟩
    obtain ⟨c', m', res, z1, z2, z3, z4, y1, y2, y3, y4, y5⟩ := rd_any (sb := 1) hC2 hB hw ha hl htg hx hrr hm4.1 (by rw [cw 1 (by decide)]; exact h1) (by rw [cw 4 (by decide)]; exact h4) (by rw [cw 5 (by decide)]; exact h5) ((a1 x (by omega)).trans eco) k0 hk1 a2 (by rw [a5 11 (by decide) (by decide)]; exact m11) a4 (by rw [a5 16 (by decide) (by decide)]; exact m16) (by
      obtain ⟨s0, hs0, es0⟩ := held
      exact ⟨s0, hs0, by rw [a1 _ (by omega)]; exact es0⟩) (Or.inl ⟨rfl, hm4.2⟩)
    refine ⟨c', m', res, z1, z2, ⟨1 + δ, ?_, ?_⟩, y1, ?_, ?_, fun i h1 h2 => ?_, y5⟩
    · rw [z3, s4, wr_same]
      exact Int32.add_assoc _ _ _
    · rw [z4, a3]
      exact Int32.add_assoc _ _ _
    · intro b b1 b2 b3 b4 b5 b6 b7
      rw [y2 b b1 b2 b3 b4 b5 b6 b7, cb b b1 b6]
    · refine FrM.tr ⟨fun i hi => a1 i (by omega), fun i h1 h2 => a1 i (by omega), a6, fun i hi => a5 i (by omega) (by omega)⟩ y3
    · rw [y4 i h1 h2, cw i (by omega)]
  · rw [show (nI 1 : Int32) = 1 from rfl, if_neg one_ne, if_neg one_ne]
    unfold fX9_reads_b186
    rw [if_neg one_ne, i96, gd_nI (by omega) (by decide), nI_clamp (by omega), m1b, emk]
    obtain ⟨m2, em2⟩ : ∃ m2, wr (wr m 0 14 (m 0 14 + 1)) 0 13 (nI (r &&& ro)) = m2 := ⟨_, rfl⟩
    obtain ⟨c2, ec2⟩ : ∃ c2, wr c w 8 (c w 8 + 1) = c2 := ⟨_, rfl⟩
    rw [em2, ec2]
    have a1 : m2 1 = m 1 := by rw [← em2, wr_ne _ _ _ (by omega), wr_ne _ _ _ (by omega)]
    have a3 : m2 0 14 = m 0 14 + 1 := by rw [← em2]; simp (disch := omega) only [wr_same, wr_i, wr_b]
    have a4 : m2 0 13 = nI (r &&& ro) := by rw [← em2]; simp (disch := omega) only [wr_same, wr_i, wr_b]
    have a5 : ∀ i, i ≠ 13 → i ≠ 14 → m2 0 i = m 0 i := fun i h1 h2 => by rw [← em2]; simp (disch := omega) only [wr_same, wr_i, wr_b]
    have a6 : ∀ b, 2 ≤ b → m2 b = m b := fun b hb => by
      rw [← em2, wr_ne _ _ _ (by omega), wr_ne _ _ _ (by omega)]
    have cb : ∀ b, b ≠ w → c2 b = c b := fun b h2 => by rw [← ec2, wr_ne _ _ _ h2]
    have cw : ∀ i, i ≠ 8 → c2 w i = c w i := fun i hi => by rw [← ec2, wr_i _ _ _ hi]
    have hC2 : Core n B cap c2 m2 := hC.cg (by omega) (hC.1.cg (cb 1 (by omega)) (cb 2 (by omega)) (Ea.of _ _ a1)) (fun b h1 h2 => cb b (by omega)) (fun i hi => by rw [a1]) (a5 6 (by decide) (by decide)) (a5 7 (by decide) (by decide)) (a5 8 (by decide) (by decide)) (fun b h1 h2 => a6 b (by omega))
    have go : ∀ sb : Int32, ((sb = 1 ∧ ¬ nI mk &&& 1 = 0) ∨ (sb = 0 ∧ nI mk &&& 1 = 0)) → ∃ c' m' res, fX8_readEntry_b95 c2 w 1 (nI x) code (nI (r &&& ro)) = some (c', ()) ∧ fX9_reads_b211 m2 (nI tg) (nI a) (nI x) code (fX9_whatOf code) sb = some (m', res) ∧ (∃ d, c' w 8 = c w 8 + d ∧ m' 0 14 = m 0 14 + d) ∧ Fin n (B + 1) cap w l c m c' m' res := by
      intro sb hsb
      obtain ⟨c', m', res, z1, z2, z3, z4, y1, y2, y3, y4, y5⟩ := rd_any (sb := sb) (mk := mk) hC2 hB hw ha hl htg hx hrr hmk (by rw [cw 1 (by decide)]; exact h1) (by rw [cw 4 (by decide)]; exact h4) (by rw [cw 5 (by decide)]; exact h5) (by rw [a1]; exact eco) k0 hk1 (by rw [a1]; exact emk) (by rw [a5 11 (by decide) (by decide)]; exact m11) a4 (by rw [a5 16 (by decide) (by decide)]; exact m16) (by rw [a1]; exact held) hsb
      refine ⟨c', m', res, z1, z2, ⟨1, ?_, ?_⟩, y1, ?_, ?_, fun i h1 h2 => ?_, y5⟩
      · rw [z3, ← ec2, wr_same]
      · rw [z4, a3]
      · intro b b1 b2 b3 b4 b5 b6 b7
        rw [y2 b b1 b2 b3 b4 b5 b6 b7, cb b b6]
      · refine FrM.tr ⟨fun i hi => by rw [a1], fun i h1 h2 => by rw [a1], a6, fun i hi => a5 i (by omega) (by omega)⟩ y3
      · rw [y4 i h1 h2, cw i (by omega)]
    by_cases hb : nI mk &&& 1 = 0
    · rw [if_pos hb]
      exact go 0 (Or.inr ⟨rfl, hb⟩)
    · rw [if_neg hb]
      exact go 1 (Or.inl ⟨rfl, hb⟩)
