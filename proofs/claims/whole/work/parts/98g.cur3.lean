/-! PURE: current, the end -/
theorem dC_f (b0 K : Nat) (c : Mm) : dC b0 (fun _ => false) K c = c := by
  funext b i
  unfold dC
  rw [if_neg (fun h => by cases h.2.2.2)]
theorem dM_f (a K : Nat) (m : Mm) : dM a (fun _ => false) K m = m := by
  funext b i
  unfold dM
  rw [if_neg (fun h => by cases h.2.2.2.2)]
theorem aC_f (K : Nat) (c : Mm) : aC (fun _ => false) K c = c := by
  funext b i
  unfold aC
  rw [if_neg (fun h => by cases h.2.2.2.2)]
theorem aM_f (K : Nat) (m : Mm) : aM (fun _ => false) K m = m := by
  funext b i
  unfold aM
  rw [if_neg (fun h => by cases h.2.2.2.2)]
theorem wr_wr (m : Mm) (b i : Nat) (v w : Int32) : wr (wr m b i v) b i w = wr m b i w := by
  funext b' i'
  by_cases e : b' = b
  · subst e
    by_cases e2 : i' = i
    · subst e2
      rw [wr_same, wr_same]
    · rw [wr_i _ _ _ e2, wr_i _ _ _ e2, wr_i _ _ _ e2]
  · rw [wr_b _ _ _ _ e, wr_b _ _ _ _ e, wr_b _ _ _ _ e]
theorem cur_tail {n cap s : Nat} {c m : Mm} (hr : Rel n cap c m) (hn : n < 512) (hs : s < 6) (hne : ¬ m 1 344 = nI s) {c1 m1 : Mm} {x y : Nat → Nat} {kc km : Nat}
  (C1 : ∀ b, b ≠ 3 → b ≠ 6 → c1 b = c b) (c34 : c1 3 4 = nI s) (c33 : c1 3 3 = nI kc) (hkc : kc ≤ n + 1) (M1 : ∀ b, b ≠ 1 → m1 b = m b) (E1 : ∀ i, i ≠ 320 → ¬ (338 ≤ i ∧ i < 344) → m1 1 i = m 1 i) (m320 : m1 1 320 = nI km) (hkm : km ≤ 16 * (n + 1)) (K : Ck n (n + 1) m m1)
  (hx : ∀ u, u < 6 → c1 6 u = nI (x u) ∧ m1 1 (338 + u) = nI (y u) ∧ x u ≤ kc ∧ y u ≤ km) (hO : ∀ u v, u < 6 → v < 6 → u ≠ s → v ≠ s → m 1 (332 + u) ≠ -1 → m 1 (332 + v) ≠ -1 → (x u < x v ↔ y u < y v)) :
  ∃ c' m' r, (gd (nI s) 6 (if (c1 5 (nI s).toNatClampNeg) = (-1 : Int32) then bd (fX4_leastFreeTag c1) (fun r9 => if r9 = (-1 : Int32) then bw (fX4_takeOldestTag c1) (fun m12 r11 => bw (fX8_forgetTag m12 r11) (fun m14 r13 => fX8_current_b69 m14 (nI s) r11)) else fX8_current_b69 c1 (nI s) r9) else gd (nI s) 6 (some (c1, (c1 5 (nI s).toNatClampNeg))))) = some (c', r) ∧ fX9_current_b87 m1 (nI s) = some (m', r) ∧ Rel (n + 1) cap c' m' := by
  obtain ⟨q1, q2, q3, q4, q5, q6, q7, q8, q9, q10, q11⟩ := id hr
  have r5 : ∀ u, u < 6 → c1 5 u = m 1 (332 + u) := fun u hu => by rw [C1 5 (by decide) (by decide)]; exact (q2.1 u hu).2.1
  have e332 : ∀ u, u < 6 → m1 1 (332 + u) = m 1 (332 + u) := fun u hu => E1 _ (by omega) (by omega)
  have b69 : ∀ (cz : Mm) (v : Int32), fX8_current_b69 cz (nI s) v = some (wr cz 5 s v, v) := fun cz v => by
    unfold fX8_current_b69
    rw [gd_nI hs (by decide), nI_clamp (by omega), wk_eq, gd_nI hs (by decide), wr_same]
  have b126 : ∀ (mz : Mm) (v : Int32), fX9_current_b126 mz (nI s) (nI (332 + s)) v = some (wr (wr mz 1 (332 + s) v) 1 344 (nI s), v) := fun mz v => by
    unfold fX9_current_b126
    simp (disch := omega) only [eq_self, l21, l12, l20, na0, Nat.reduceAdd, wk_eq, lk_eq, lkN_eq, bd_eq, bw_eq, gd_nI, nI_clamp, na1, na2, na3, na4, na5, na6, na7, na8, na9, i192, i234, i276, i326, i332, i338, i96, i0, i8, ge6F, ge6T, ge4F, ge4T, ltz, lez, Nat.one_mul, if_true, if_false, one_ne, one_eq0, zero_eq0, wr0_1, glit320, glit321, glit322, glit323, glit324, glit325, glit344, cl320, cl321, cl322, cl323, cl324, cl325, cl344]
    rw [wr_i _ _ _ (by omega), wr_same]
  have b87 : fX9_current_b87 m1 (nI s) = if m 1 (332 + s) < 0 then bw (fX9_freeTag m1) (fun m4 r3 => some (wr (wr m4 1 (332 + s) r3) 1 344 (nI s), r3)) else some (wr (wr m1 1 (332 + s) (m 1 (332 + s))) 1 344 (nI s), m 1 (332 + s)) := by
    unfold fX9_current_b87
    simp (disch := omega) only [eq_self, l21, l12, l20, na0, Nat.reduceAdd, wk_eq, lk_eq, lkN_eq, bd_eq, bw_eq, gd_nI, nI_clamp, na1, na2, na3, na4, na5, na6, na7, na8, na9, i192, i234, i276, i326, i332, i338, i96, i0, i8, ge6F, ge6T, ge4F, ge4T, ltz, lez, Nat.one_mul, if_true, if_false, one_ne, one_eq0, zero_eq0, wr0_1, glit320, glit321, glit322, glit323, glit324, glit325, glit344, cl320, cl321, cl322, cl323, cl324, cl325, cl344, e332 s hs, b126]
  rw [b87, gd_nI hs (by decide), nI_clamp (by omega), gd_nI hs (by decide), r5 s hs]
  have fin := fun {e : Nat} {P1 P2 Q : Nat → Bool} {tg : Int32} => cur_fin hr hn hs hne C1 c34 c33 hkc M1 E1 m320 hkm K hx hO (e := e) (P1 := P1) (P2 := P2) (Q := Q) (tg := tg)
  rcases (q2.1 s hs).2.2.2 with hT | ⟨g, hg, hT⟩
  · simp only [hT, m1eq, m1lt, if_true]
    have r5' : ∀ u, u < 6 → c1 5 u = m1 1 (332 + u) := fun u hu => by rw [r5 u hu, e332 u hu]
    have r4' : ∀ u v, u < 6 → v < 6 → m1 1 (332 + u) = m1 1 (332 + v) → m1 1 (332 + u) ≠ -1 → u = v := fun u v hu hv => by
      rw [e332 u hu, e332 v hv]; exact q2.2.2.2.1 u v hu hv
    rcases free_tag r5' r4' with ⟨g, hg, no, o1, o2⟩ | ⟨al, o1, o2⟩
    · rw [o1, o2, bd_eq, bw_eq, if_neg (by rw [m1ne (by omega)]; exact id), b69]
      refine ⟨_, _, _, rfl, rfl, ?_⟩
      exact fin (e := s) (P1 := fun _ => false) (P2 := fun _ => false) (Q := fun _ => false) ⟨g, hg, rfl⟩ hs (fun u hu _ _ h => no u hu (by rw [e332 u hu]; exact h)) (Or.inr ⟨rfl, Or.inl hT⟩) ⟨fun h => absurd rfl h, fun h => absurd rfl h, fun h => absurd rfl h⟩ (by rw [dC_f, dC_f, aC_f, wr_wr]) (by rw [dM_f, dM_f, aM_f, wr_wr])
    · obtain ⟨e, he, hTe, w1, w2⟩ := eldest (c := c1) (m := m1) (x := x) (y := y) (s := s) r5' (fun u hu => by rw [e332 u hu]; exact (q2.1 u hu).2.2.2) c34 hs (by rw [e332 s hs]; exact hT) (fun u hu => ⟨(hx u hu).1, (hx u hu).2.1, by have := (hx u hu).2.2.1; omega, by have := (hx u hu).2.2.2; omega⟩) (fun u v hu hv h1 h2 => by
        rw [e332 u hu] at h1
        rw [e332 v hv] at h2
        exact hO u v hu hv (fun h => by rw [h, hT] at h1; exact h1 rfl) (fun h => by rw [h, hT] at h2; exact h2 rfl) h1 h2) (by
        obtain ⟨u, hu, h⟩ := al 0 (by decide)
        exact ⟨u, hu, by rw [h]; decide⟩)
      rw [e332 e he] at hTe w1 w2
      have hes : e ≠ s := fun h => by rw [h, hT] at hTe; exact hTe rfl
      obtain ⟨tg, htg⟩ : ∃ tg, m 1 (332 + e) = tg := ⟨_, rfl⟩
      have vtg : Vk 3 tg := by
        rcases (q2.1 e he).2.2.2 with h | h
        · exact absurd h hTe
        · rw [htg] at h; exact h
      have tgn : ¬ tg = -1 := by rw [← htg]; exact hTe
      rw [htg] at w1 w2
      have hQ : ∀ k, k < 4 → ((fun k => decide (m 1 (276 + 11 * k) = 1 ∧ m 1 (276 + 11 * k + 9) = tg)) k = true ↔ (m 1 (276 + 11 * k) = 1 ∧ m 1 (276 + 11 * k + 9) = tg)) := fun k _ => decide_eq_true_iff
      have hP1 : ∀ k, k < 6 → ((fun k => decide (m 1 (192 + 7 * k) = tg)) k = true ↔ m 1 (192 + 7 * k) = tg) := fun k _ => decide_eq_true_iff
      have hP2 : ∀ k, k < 6 → ((fun k => decide (m 1 (234 + 7 * k) = tg)) k = true ↔ m 1 (234 + 7 * k) = tg) := fun k _ => decide_eq_true_iff
      generalize (fun k => decide (m 1 (276 + 11 * k) = 1 ∧ m 1 (276 + 11 * k + 9) = tg)) = Q at hQ
      generalize (fun k => decide (m 1 (192 + 7 * k) = tg)) = P1 at hP1
      generalize (fun k => decide (m 1 (234 + 7 * k) = tg)) = P2 at hP2
      have mo : ∀ i, i < 320 → wr m1 1 (332 + e) (-1) 1 i = m 1 i := fun i hi => by
        rw [wr_i _ _ _ (by omega), E1 _ (by omega) (by omega)]
      have co : ∀ b, b ≠ 3 → b ≠ 5 → b ≠ 6 → wr c1 5 e (-1) b = c b := fun b h1 h2 h3 => by
        rw [wr_ne _ _ _ h2, C1 b h1 h3]
      have cl : fX9_clearsTag (wr m1 1 (332 + e) (-1)) tg = some (aM Q 4 (dM 234 P2 6 (dM 192 P1 6 (wr m1 1 (332 + e) (-1)))), ()) := cl_sp (fun k hk => by rw [mo _ (by omega)]; exact hP1 k hk) (fun k hk => by rw [mo _ (by omega)]; exact hP2 k hk) (fun k hk => by rw [mo _ (by omega), mo _ (by omega)]; exact hQ k hk)
      have a0 : fX8_abortWalkersOf (wr c1 5 e (-1)) tg = some (aC Q 4 (wr c1 5 e (-1)), ()) := abortW_sp (fun k hk => by
        rw [co _ (by omega) (by omega) (by omega), hQ k hk, (q7 k hk).1, (q7 k hk).2.2.2.2.2.1])
      have tr : ∀ (a b : Prop), (¬ a ∧ b) ↔ (¬ a ∧ b ∧ True) := fun a b => by rw [and_true]
      have eb : ∀ k, k < 6 → aC Q 4 (wr c1 5 e (-1)) (9 + k) = c (9 + k) := fun k hk => by
        rw [aC_out (by omega), co _ (by omega) (by omega) (by omega)]
      have eb2 : ∀ k, k < 6 → dC 9 P1 6 (aC Q 4 (wr c1 5 e (-1))) (17 + k) = c (17 + k) := fun k hk => by
        rw [dC_out (by omega), aC_out (by omega), co _ (by omega) (by omega) (by omega)]
      have d1 : fX5_dropTag (aC Q 4 (wr c1 5 e (-1))) 7 tg 1 = some (dC 9 P1 6 (aC Q 4 (wr c1 5 e (-1))), nI (fa_cnt P1 6)) := dropTag_sp (q := 7) (P := P1) (fun k hk => by
        rw [show 7 + 1 + 1 + k = 9 + k by omega, eb k hk, hP1 k hk]
        refine Iff.trans ?_ (pl_tag q4 hk (tag := tg) (Z := ¬ (1 : Int32) = 0 ∨ c (9 + k) 5 &&& 8 = 0) (Z' := True) (fun _ => ⟨fun _ => trivial, fun _ => Or.inl one_ne⟩)).symm
        exact ⟨fun h => ⟨by rw [h]; exact tgn, h, trivial⟩, fun h => h.2.1⟩)
      have d2 : fX5_dropTag (dC 9 P1 6 (aC Q 4 (wr c1 5 e (-1)))) 15 tg 1 = some (dC 17 P2 6 (dC 9 P1 6 (aC Q 4 (wr c1 5 e (-1)))), nI (fa_cnt P2 6)) := dropTag_sp (q := 15) (P := P2) (fun k hk => by
        rw [show 15 + 1 + 1 + k = 17 + k by omega, eb2 k hk, hP2 k hk]
        refine Iff.trans ?_ (pl_tag q5 hk (tag := tg) (Z := ¬ (1 : Int32) = 0 ∨ c (17 + k) 5 &&& 8 = 0) (Z' := True) (fun _ => ⟨fun _ => trivial, fun _ => Or.inl one_ne⟩)).symm
        exact ⟨fun h => ⟨by rw [h]; exact tgn, h, trivial⟩, fun h => h.2.1⟩)
      have fg : fX8_forgetTag (wr c1 5 e (-1)) tg = some (dC 17 P2 6 (dC 9 P1 6 (aC Q 4 (wr c1 5 e (-1)))), ()) := by
        unfold fX8_forgetTag
        rw [a0, bw_eq, d1, bw_eq, d2, bw_eq]
      rw [o1, o2, bd_eq, if_pos rfl, w1, w2, bw_eq, cl, bw_eq, bw_eq, fg, bw_eq, b69]
      refine ⟨_, _, _, rfl, rfl, ?_⟩
      exact fin (e := e) (P1 := P1) (P2 := P2) (Q := Q) vtg he (fun u hu _ hue h => hue (q2.2.2.2.1 u e hu he (h.trans htg.symm) (by rw [h]; exact tgn))) (Or.inl ⟨htg, hes⟩) ⟨fun _ k hk => ⟨hP1 k hk, hP2 k hk⟩, fun _ => hQ, fun _ => hT⟩ rfl rfl
  · have nm : ¬ nI g = -1 := by rw [m1ne (by omega)]; exact id
    rw [hT, if_neg nm, if_neg (nI_pos (by omega))]
    refine ⟨_, _, _, rfl, rfl, ?_⟩
    exact fin (e := s) (P1 := fun _ => false) (P2 := fun _ => false) (Q := fun _ => false) ⟨g, hg, rfl⟩ hs (fun u hu hus _ h => hus (q2.2.2.2.1 u s hu hs (h.trans hT.symm) (by rw [h]; exact nm))) (Or.inr ⟨rfl, Or.inr hT⟩) ⟨fun h => absurd rfl h, fun h => absurd rfl h, fun h => absurd rfl h⟩ (by
      rw [dC_f, dC_f, aC_f, wr_wr]
      have z := wr_id c1 5 s
      rw [r5 s hs, hT] at z
      exact z.symm) (by rw [dM_f, dM_f, aM_f, wr_wr])
theorem st_current : St_current Rel := by
  intro n cap cm mm a1 hn hr
  have h0 : Rel n cap cm (wr mm 0 0 0) := hr.scr Sc.rf (Sm.wr0 (m := mm) 0 0 (by decide))
  unfold fX8_current fX9_current
  rw [wk_eq]
  generalize wr mm 0 0 0 = m0 at h0
  have hN := h0.mono
  rcases rng a1 6 (by decide) with h | ⟨s, hs, rfl⟩
  · obtain ⟨e1, e2⟩ := sp_out h
    simp only [e1, e2, eq_self, if_true]
    exact ⟨_, _, -1, rfl, rfl, hN⟩
  obtain ⟨e1, e2⟩ := sp_in hs
  obtain ⟨q1, q2, q3, q4, q5, q6, q7, q8, q9, q10, q11⟩ := id h0
  obtain ⟨g1, g2, g3, g4⟩ := q2.1 s hs
  rw [e1, e2, if_neg one_ne, if_neg one_ne, gd_nI hs (by decide), i326, gd_nI (by omega) (by decide)]
  rw [show (cm 4 (nI s).toNatClampNeg) = m0 1 (326 + s) from by rw [nI_clamp (by omega)]; exact g1, nI_clamp (show 326 + s < 2 ^ 31 by omega)]
  rcases g3 with hroot | ⟨ro, hro, hroot⟩
  · rw [hroot, if_pos rfl, if_neg (by decide)]
    exact ⟨_, _, -1, rfl, rfl, hN⟩
  rw [hroot, if_neg (show ¬ nI ro = -1 by rw [m1ne (by omega)]; exact id), if_pos (show (0 : Int32) ≤ nI ro from nI_le (a := 0) (by omega) (by omega))]
  by_cases hcur : m0 1 344 = nI s
  · have hT : ¬ m0 1 (332 + s) = -1 := q2.2.2.2.2 s hs hcur
    have en : fX4_enter cm (nI s) = some (cm, ()) := by
      unfold fX4_enter
      rw [q2.2.1, hcur, if_neg (by rw [m1ne (by omega)]; exact id), if_pos rfl, wk_eq]
      have z := wr_id cm 3 4
      rw [q2.2.1, hcur] at z
      rw [z]
    rw [en, bw_eq, gd_nI hs (by decide)]
    rw [show (cm 5 (nI s).toNatClampNeg) = m0 1 (332 + s) from by rw [nI_clamp (by omega)]; exact g2, if_neg hT, gd_nI hs (by decide), glit344, cl344, if_pos hcur, i332, gd_nI (by omega) (by decide), nI_clamp (by omega)]
    exact ⟨_, _, _, rfl, rfl, hN⟩
  · obtain ⟨x, y, kc, km, t1, t2, t3, t4, t5, t6⟩ := id q3
    rw [glit344, cl344, if_neg hcur]
    have K0 : ∀ m', m' 1 320 = nI (km + 1) → Ck n (n + 1) m0 m' := fun m' h => ⟨by omega, by omega, km, km + 1, t3, t4, h, by omega, by omega⟩
    rcases q2.2.2.1 with hc | ⟨o, ho, hc⟩
    · have en : fX4_enter cm (nI s) = some (wr cm 3 4 (nI s), ()) := by
        unfold fX4_enter
        rw [q2.2.1, hc, if_pos rfl, wk_eq]
      have m9 : (gd (320 : Int32) 345 (gd (320 : Int32) 345 (wk m0 1 (320 : Int32).toNatClampNeg ((m0 1 (320 : Int32).toNatClampNeg) + (1 : Int32)) (fun m10 => gd (344 : Int32) 345 (if (m10 1 344) < 0 then fX9_current_b87 m10 (nI s) else gd (344 : Int32) 345 (gd (320 : Int32) 345 (gd ((338 : Int32) + (m10 1 344)) 345 (wk m10 1 ((338 : Int32) + (m10 1 344)).toNatClampNeg (m10 1 (320 : Int32).toNatClampNeg) (fun m16 => fX9_current_b87 m16 (nI s)))))))))) = fX9_current_b87 (wr m0 1 320 (nI (km + 1))) (nI s) := by
        rw [glit320, glit320, wk_eq, cl320, t3, na1, glit344, wr_i _ _ _ (by decide), hc, if_pos (by decide)]
      rw [en, bw_eq, m9]
      refine cur_tail h0 hn hs hcur (x := x) (y := y) (kc := kc) (km := km + 1) (fun b h1 h2 => wr_ne _ _ _ h1) (wr_same _ _ _ _) (by rw [wr_i _ _ _ (by decide)]; exact t1) (by omega) (fun b hb => wr_ne _ _ _ hb) (fun i h1 h2 => wr_i _ _ _ h1) (wr_same _ _ _ _) (by omega) (K0 _ (wr_same _ _ _ _)) (fun u hu => ?_) (fun u v hu hv _ _ h1 h2 => ?_)
      · obtain ⟨a1, a2, a3, a4⟩ := t5 u hu
        rw [wr_b _ _ _ _ (by decide), wr_i _ _ _ (by omega)]
        exact ⟨a1, a2, a3, by omega⟩
      · exact t6 u v hu hv h1 h2 (by rw [hc]; exact fun z => by rw [m1n (by omega)] at z; exact z) (by rw [hc]; exact fun z => by rw [m1n (by omega)] at z; exact z)
    · have hos : o ≠ s := fun h => hcur (by rw [hc, h])
      have en : fX4_enter cm (nI s) = some (wr (wr (wr cm 3 3 (nI (kc + 1))) 6 o (nI (kc + 1))) 3 4 (nI s), ()) := by
        unfold fX4_enter
        rw [q2.2.1, hc, if_neg (by rw [m1ne (by omega)]; exact id), if_neg (by rw [ninj (by omega) (by omega)]; exact hos), wk_eq, t1, na1, wr_i _ _ _ (by decide), q2.2.1, hc, gd_nI ho (by decide), nI_clamp (by omega), wr_same, wk_eq, wk_eq]
      have m9 : (gd (320 : Int32) 345 (gd (320 : Int32) 345 (wk m0 1 (320 : Int32).toNatClampNeg ((m0 1 (320 : Int32).toNatClampNeg) + (1 : Int32)) (fun m10 => gd (344 : Int32) 345 (if (m10 1 344) < 0 then fX9_current_b87 m10 (nI s) else gd (344 : Int32) 345 (gd (320 : Int32) 345 (gd ((338 : Int32) + (m10 1 344)) 345 (wk m10 1 ((338 : Int32) + (m10 1 344)).toNatClampNeg (m10 1 (320 : Int32).toNatClampNeg) (fun m16 => fX9_current_b87 m16 (nI s)))))))))) = fX9_current_b87 (wr (wr m0 1 320 (nI (km + 1))) 1 (338 + o) (nI (km + 1))) (nI s) := by
        rw [glit320, glit320, wk_eq, cl320, t3, na1, glit344, wr_i _ _ _ (by decide), hc, if_neg (nI_pos (by omega)), glit344, glit320, i338, gd_nI (by omega) (by decide), nI_clamp (by omega), wr_same, wk_eq]
      rw [en, bw_eq, m9]
      refine cur_tail h0 hn hs hcur (x := fun u => if u = o then kc + 1 else x u) (y := fun u => if u = o then km + 1 else y u) (kc := kc + 1) (km := km + 1) (fun b h1 h2 => by rw [wr_ne _ _ _ h1, wr_ne _ _ _ h2, wr_ne _ _ _ h1]) (wr_same _ _ _ _) (by rw [wr_i _ _ _ (by decide), wr_b _ _ _ _ (by decide), wr_same]) (by omega) (fun b hb => by rw [wr_ne _ _ _ hb, wr_ne _ _ _ hb]) (fun i h1 h2 => by rw [wr_i _ _ _ (by omega), wr_i _ _ _ h1]) (by rw [wr_i _ _ _ (by omega), wr_same]) (by omega) (K0 _ (by rw [wr_i _ _ _ (by omega), wr_same])) (fun u hu => ?_) (fun u v hu hv _ _ h1 h2 => ?_)
      · obtain ⟨a1, a2, a3, a4⟩ := t5 u hu
        rw [wr_b _ _ _ _ (by decide)]
        by_cases e : u = o
        · subst e
          rw [wr_same, wr_same]
          simp only [if_true]
          exact ⟨trivial, trivial, by omega, by omega⟩
        · rw [wr_i _ _ _ e, wr_b _ _ _ _ (by decide), wr_i _ _ _ (by omega), wr_i _ _ _ (by omega)]
          simp only [e, if_false]
          exact ⟨a1, a2, by omega, by omega⟩
      · obtain ⟨-, -, a3, a4⟩ := t5 u hu
        obtain ⟨-, -, b3, b4⟩ := t5 v hv
        by_cases eu : u = o
        · by_cases ev : v = o
          · simp only [eu, ev, if_true]; omega
          · simp only [eu, ev, if_true, if_false]; omega
        · by_cases ev : v = o
          · simp only [eu, ev, if_true, if_false]; omega
          · simp only [eu, ev, if_false]
            exact t6 u v hu hv h1 h2 (by rw [hc]; exact fun h => eu (nI_inj (by omega) (by omega) h).symm) (by rw [hc]; exact fun h => ev (nI_inj (by omega) (by omega) h).symm)
