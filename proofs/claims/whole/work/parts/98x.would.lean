/-! PURE: would, steps -/
def cpM (K : Nat) (m : Mm) : Mm := fun b i => if b = 2 ∧ i < K then m 1 i else m b i
def rsM (K : Nat) (m : Mm) : Mm := fun b i => if b = 1 ∧ i < K then m 2 i else m b i
theorem cp_0 (m : Mm) : cpM 0 m = m := by
  funext b i
  unfold cpM
  rw [if_neg (by omega)]
theorem rs_0 (m : Mm) : rsM 0 m = m := by
  funext b i
  unfold rsM
  rw [if_neg (by omega)]
theorem cp_b {K b : Nat} {m : Mm} (h : b ≠ 2) : cpM K m b = m b := by
  funext i
  unfold cpM
  rw [if_neg (fun z => h z.1)]
theorem rs_b {K b : Nat} {m : Mm} (h : b ≠ 1) : rsM K m b = m b := by
  funext i
  unfold rsM
  rw [if_neg (fun z => h z.1)]
theorem cp_2 {K i : Nat} {m : Mm} (h : i < K) : cpM K m 2 i = m 1 i := if_pos ⟨rfl, h⟩
theorem rs_1 {K i : Nat} {m : Mm} (h : i < K) : rsM K m 1 i = m 2 i := if_pos ⟨rfl, h⟩
theorem rs_o {K i : Nat} {m : Mm} (h : K ≤ i) : rsM K m 1 i = m 1 i := if_neg (by omega)
theorem cp_s (K : Nat) (m : Mm) : wr (cpM K m) 2 K (cpM K m 1 K) = cpM (K + 1) m := by
  rw [cp_b (by decide)]
  funext b i
  by_cases e : b = 2
  · subst e
    by_cases e2 : i = K
    · subst e2
      rw [wr_same, cp_2 (by omega)]
    · rw [wr_i _ _ _ e2]
      unfold cpM
      by_cases h : i < K
      · rw [if_pos ⟨rfl, h⟩, if_pos ⟨rfl, by omega⟩]
      · rw [if_neg (by omega), if_neg (by omega)]
  · rw [wr_b _ _ _ _ e, cp_b e, cp_b e]
theorem rs_s (K : Nat) (m : Mm) : wr (rsM K m) 1 K (rsM K m 2 K) = rsM (K + 1) m := by
  rw [rs_b (by decide)]
  funext b i
  by_cases e : b = 1
  · subst e
    by_cases e2 : i = K
    · subst e2
      rw [wr_same, rs_1 (by omega)]
    · rw [wr_i _ _ _ e2]
      unfold rsM
      by_cases h : i < K
      · rw [if_pos ⟨rfl, h⟩, if_pos ⟨rfl, by omega⟩]
      · rw [if_neg (by omega), if_neg (by omega)]
  · rw [wr_b _ _ _ _ e, rs_b e, rs_b e]
theorem rs_lp {m : Mm} {v : Int32} : fX9_foretells_b37 2000 m v 0 = some (rsM 345 m, v) := by
  have key := down (P := fun f k => fX9_foretells_b37 f (rsM k m) v (nI k) = some (rsM 345 m, v)) 345 ?_ ?_ 345 0 2000 rfl (by decide)
  · rw [rs_0] at key; exact key
  · intro f
    have L : fX9_foretells_b37 (f + 1) (rsM 345 m) v (nI 345) = fX9_foretells_b37_s (fX9_foretells_b37 f) (rsM 345 m) v (nI 345) := rfl
    rw [L]
    unfold fX9_foretells_b37_s
    rw [if_pos (by decide)]
  · intro f k hk ih
    have L : fX9_foretells_b37 (f + 1) (rsM k m) v (nI k) = fX9_foretells_b37_s (fX9_foretells_b37 f) (rsM k m) v (nI k) := rfl
    rw [L]
    unfold fX9_foretells_b37_s
    rw [if_neg (show ¬ (345 : Int32) ≤ nI k from nI_ge (b := 345) hk (by decide)), gd_nI hk (by decide), gd_nI hk (by decide), wk_eq, nI_clamp (by omega), rs_s, na1]
    exact ih
theorem cp_lp {m : Mm} {a wa : Int32} : fX9_foretells m a wa = bw (fX9_asks (cpM 345 m) a wa) (fun m3 r2 => fX9_foretells_b37 2000 m3 r2 0) := by
  obtain ⟨R, eR⟩ : ∃ R, bw (fX9_asks (cpM 345 m) a wa) (fun m3 r2 => fX9_foretells_b37 2000 m3 r2 0) = R := ⟨_, rfl⟩
  rw [eR]
  have key := down (P := fun f k => fX9_foretells_b2 f (cpM k m) a wa (nI k) = R) 345 ?_ ?_ 345 0 2000 rfl (by decide)
  · rw [cp_0] at key; exact key
  · intro f
    have L : fX9_foretells_b2 (f + 1) (cpM 345 m) a wa (nI 345) = fX9_foretells_b2_s (fX9_foretells_b2 f) (cpM 345 m) a wa (nI 345) := rfl
    rw [L]
    unfold fX9_foretells_b2_s
    rw [if_pos (by decide)]
    exact eR
  · intro f k hk ih
    have L : fX9_foretells_b2 (f + 1) (cpM k m) a wa (nI k) = fX9_foretells_b2_s (fX9_foretells_b2 f) (cpM k m) a wa (nI k) := rfl
    rw [L]
    unfold fX9_foretells_b2_s
    rw [if_neg (show ¬ (345 : Int32) ≤ nI k from nI_ge (b := 345) hk (by decide)), gd_nI hk (by decide), gd_nI hk (by decide), wk_eq, nI_clamp (by omega), cp_s, na1]
    exact ih
theorem RP.cgm {n b q a : Nat} {c m m' : Mm} (h : RP n b q a c m) (hn : n < 512) (e : Ea a (a + 42) m m') (e3 : m' 1 320 = m 1 320) : RP n b q a c m' := RPB.cg (B := 16 * n) (B' := 16 * n) h (fun _ _ => rfl) rfl (RPB.ck0 (B := 16 * n) h (by omega) e3) e
/-- what is foretold -/
theorem fore_both {n cap a wa s tg : Nat} {c m : Mm} (hr : Rel n cap c m) (hn : n < 512) (ha : a < 512) (hwa : wa < 8) (hs : s < 6) (htg : tg < 3) (hcur : m 1 344 = nI s) (het : m 1 (332 + s) = nI tg) : ∃ m' v, fX9_foretells m (nI a) (nI wa) = some (m', v) ∧ ¬ v = -1 ∧ ((∃ k, k < 6 ∧ fX8_latestFit c (nI a) (nI wa) = some (some (9 + k)) ∧ fX3_frameAt c (9 + k) (nI a) = some v ∧ m' 0 14 = 0 ∧ Rel (n + 1) cap c m') ∨ (∃ c', fX8_latestFit c (nI a) (nI wa) = some none ∧ fX8_rehearseWalk c (nI a) (nI wa) = some (c', ()) ∧ fX6_answer c' 32 = some v ∧ c' 32 8 = m' 0 14 ∧ Rel (n + 1) cap c' m')) := by
  obtain ⟨q1, q2, q3, q4, q5, q6, q7, q8, q9, q10, q11⟩ := id hr
  rw [cp_lp]
  unfold fX9_asks
  rw [wk_eq, glit321, glit321, wk_eq, cl321]
  obtain ⟨m4, em4⟩ : ∃ m4, wr (wr (cpM 345 m) 0 14 0) 1 321 (wr (cpM 345 m) 0 14 0 1 321 + 1) = m4 := ⟨_, rfl⟩
  rw [em4]
  have m1 : ∀ i, i ≠ 321 → m4 1 i = m 1 i := fun i hi => by rw [← em4, wr_i _ _ _ hi, wr_b _ _ _ _ (by decide), cp_b (by decide)]
  have m14 : m4 0 14 = 0 := by rw [← em4]; simp (disch := omega) only [wr_same, wr_i, wr_b]
  have mz : ∀ b, 2 ≤ b → m4 b = cpM 345 m b := fun b hb => by rw [← em4, wr_ne _ _ _ (by omega), wr_ne _ _ _ (by omega)]
  have m00 : ∀ i, i ≠ 14 → m4 0 i = m 0 i := fun i hi => by rw [← em4, wr_b _ _ _ _ (by decide), wr_i _ _ _ hi, cp_b (by decide)]
  have hcur4 : m4 1 344 = nI s := (m1 _ (by decide)).trans hcur
  have het4 : m4 1 (332 + s) = nI tg := (m1 _ (by omega)).trans het
  -- what all ends in
  have fin : ∀ (c' m3 : Mm), (∀ b, b ≠ 32 → b ≠ 33 → c' b = c b) → (∀ b, 2 ≤ b → m3 b = m4 b) → (∀ i, 345 ≤ i → m3 1 i = m4 1 i) → (∀ i, i < 11 → m3 0 i = m4 0 i) → Rel (n + 1) cap c' (rsM 345 m3) := fun c' m3 hc hb hi h0 => by
    have e1 : ∀ i, rsM 345 m3 1 i = m 1 i := fun i => by
      by_cases h : i < 345
      · rw [rs_1 h, hb 2 (by decide), mz 2 (by decide), cp_2 h]
      · rw [rs_o (by omega), hi i (by omega), m1 i (by omega)]
    have e2 : ∀ b, 3 ≤ b → rsM 345 m3 b = m b := fun b h => by rw [rs_b (by omega), hb b (by omega), mz b (by omega), cp_b (by omega)]
    have e0 : ∀ i, i < 11 → rsM 345 m3 0 i = m 0 i := fun i h => by rw [rs_b (by decide), h0 i h, m00 i (by omega)]
    refine core_end hr.core (by omega) hn (fun b h1 h2 => hc b (by omega) (by omega)) (fun i _ => e1 i) (e0 6 (by decide)) (e0 7 (by decide)) (e0 8 (by decide)) (fun b h1 h2 => e2 b h1) (q8.cg (hc 0 (by decide) (by decide)) (fun i _ _ => e1 i)) (fun j hj => (q7 j hj).fr (hc _ (by omega) (by omega)) (fun i _ => e1 _)) (fun j hj h => ?_)
    rw [e1] at h ⊢
    exact q11.2.2 j hj h
  have R4 : RP n 9 7 192 c m4 := q4.cgm hn (fun i h1 h2 => m1 i (by omega)) (m1 _ (by decide))
  rcases hit_both (n := n) (wa := wa) (c := c) (m := m4) R4 hn ha hs (q2.2.1.trans hcur) ((q2.1 s hs).2.1.trans het) hcur4 het4 with ⟨F, l1, l2, l3⟩ | ⟨k, P, hk, fk, pk, l1, l2, l3⟩
  · rw [l3]
    have d1 : ∀ i, i < 192 ∨ 234 ≤ i → i ≠ 321 → dM 192 F 6 m4 1 i = m 1 i := fun i h1 h2 => by rw [dM_out (by omega), m1 i h2]
    have e44 : dM 192 F 6 m4 1 344 = nI s := by rw [dM_out (by omega)]; exact hcur4
    have e32 : dM 192 F 6 m4 1 (332 + s) = nI tg := by rw [dM_out (by omega)]; exact het4
    have S5 : RS c (dM 192 F 6 m4) := q2.cg rfl rfl rfl (fun i h1 h2 => d1 i (by omega) (by omega)) (d1 _ (by omega) (by omega))
    have R5 : RP n 17 15 234 c (dM 192 F 6 m4) := q5.cgm hn (fun i h1 h2 => d1 i (by omega) (by omega)) (d1 _ (by omega) (by omega))
    have V5 : RPv c (dM 192 F 6 m4) := by
      refine ⟨fun j hj h => ?_, fun j hj h => ?_⟩
      · rw [dM_i (by decide) (by decide), dM_i (by decide) (by decide), m1 _ (by omega), m1 _ (by omega)]
        exact q6.1 j hj h
      · rw [d1 _ (by omega) (by omega), d1 _ (by omega) (by omega), d1 _ (by omega) (by omega)]
        exact q6.2 j hj h
    obtain ⟨c1, ⟨zo, z1, z2, z3, z4, z8, z9⟩, H⟩ := place_both (B := 16 * n) (w := 32) (wa := wa) (g := 0) S5 R5 V5 (by decide) ha (by decide) htg hs e44 e32
    -- the tables as they stand when the walk begins
    have tab : ∀ (m6 : Mm), (∀ i, i < 192 → m6 1 i = m 1 i) → (∀ k, k < 6 → Vn 3 (m6 1 (192 + 7 * k))) → (∀ k, k < 6 → Vn 3 (m6 1 (234 + 7 * k))) → ∀ l, DW l c1 m6 := fun m6 h1 h2 h3 l => by
      refine ⟨fun i hi => ?_, fun j _ hj => z9 j hj, h2, h3⟩
      obtain ⟨r1, r2, r3, r4⟩ := q1 i hi
      rw [zo 1 (by decide) (by decide), zo 2 (by decide) (by decide), h1 i (by omega), h1 (96 + i) (by omega), r2]
      refine ⟨r1, r3, r4, fun ⟨j, hj, ej⟩ => ?_, fun _ => rfl⟩
      rw [z9 j hj, m1n (by omega)] at ej
      exact ej.elim
    have vn1 : ∀ k, k < 6 → Vn 3 (dM 192 F 6 m4 1 (192 + 7 * k)) := fun k hk => by
      rw [dM_at hk]
      by_cases h : F k = true
      · rw [if_pos h]; exact Or.inl rfl
      · rw [if_neg h]; exact R4.vn hk
    have eb : ∀ m6, fX9_begins (dM 192 F 6 m4) (nI tg) (nI a) = some (m6, ()) → fX9_asks_b23_s (fun _ _ _ _ => none) (dM 192 F 6 m4) (nI a) (nI wa) (-1) = (if m6 0 16 = 0 then fX9_asks_b154 2000 m6 (nI a) (nI wa) (nI tg) 1 else fX9_asks_b154 2000 m6 (nI a) (nI wa) (nI tg) 0) := fun m6 t2 => by
      unfold fX9_asks_b23_s
      rw [if_pos (by decide), glit344, cl344, e44, i332, gd_nI (by omega) (by decide), nI_clamp (by omega), e32, lk_eq, t2, bw_eq]
    -- both walks
    obtain ⟨c11, m8, v1, v2, v3, v4, v5, v6, v7, v8⟩ : ∃ c11 m8, fX8_rehearseWalk c (nI a) (nI wa) = some (c11, ()) ∧ fX9_asks_b23_s (fun _ _ _ _ => none) (dM 192 F 6 m4) (nI a) (nI wa) (-1) = fX9_asks_b154_s (fun _ _ _ _ _ => none) m8 (nI a) (nI wa) (nI tg) 0 ∧ (∀ b, b ≠ 32 → b ≠ 33 → c11 b = c b) ∧ (∀ b, 2 ≤ b → m8 b = m4 b) ∧ (∀ i, 345 ≤ i → m8 1 i = m4 1 i) ∧ (∀ i, i < 11 → m8 0 i = m4 0 i) ∧ c11 32 8 = m8 0 14 ∧ Done 32 c11 m8 := by
      have go : ∀ (o : Option Nat) (m6 : Mm) (l t r : Nat), fX8_placeWalk c 32 (nI a) (nI wa) (nI 0) = some (c1, o) → fX9_begins (dM 192 F 6 m4) (nI tg) (nI a) = some (m6, ()) → FbM (dM 192 F 6 m4) m6 → m6 0 16 = 0 → (∀ k, k < 6 → Vn 3 (m6 1 (192 + 7 * k))) → (∀ k, k < 6 → Vn 3 (m6 1 (234 + 7 * k))) → WS 32 a wa 0 tg l t r c1 m6 → ∃ c11 m8, fX8_rehearseWalk c (nI a) (nI wa) = some (c11, ()) ∧ fX9_asks_b23_s (fun _ _ _ _ => none) (dM 192 F 6 m4) (nI a) (nI wa) (-1) = fX9_asks_b154_s (fun _ _ _ _ _ => none) m8 (nI a) (nI wa) (nI tg) 0 ∧ (∀ b, b ≠ 32 → b ≠ 33 → c11 b = c b) ∧ (∀ b, 2 ≤ b → m8 b = m4 b) ∧ (∀ i, 345 ≤ i → m8 1 i = m4 1 i) ∧ (∀ i, i < 11 → m8 0 i = m4 0 i) ∧ c11 32 8 = m8 0 14 ∧ Done 32 c11 m8 := by
        intro o m6 l t r p1 p2 p3 p4 p5 p6 hW
        have hl3 : l < 3 := hW.2.2.2.2.2.2.2.2.2.2.2.2.2.2.2.2.1
        obtain ⟨c11, m8, w1, w2, w3, w4, ⟨d, w5, w6⟩, w7⟩ := dead_fin (a := a) (wa := wa) (tg := tg) l 0 2000 2000 t r c1 m6 (tab m6 (fun i hi => by rw [p3.1 i (by omega)]; exact d1 i (by omega) (by omega)) p5 p6 l) hW (by omega) (by omega) (by omega)
        refine ⟨c11, m8, ?_, ?_, fun b b1 b2 => (w3 b b1 b2).trans (zo b b1 b2), fun b hb => ?_, fun i hi => ?_, fun i hi => ?_, ?_, w7⟩
        · unfold fX8_rehearseWalk fX8_finishWalk
          rw [show (0 : Int32) = nI 0 from rfl, p1, bw_eq]
          have : fX8_finishWalk_b2 2000 c1 32 (nI 0) (nI 0) = some (c11, ()) := w1
          rw [this, bw_eq]
        · rw [eb m6 p2, p4, if_pos rfl, w2]
        · rw [w4.2.2.1 b hb, p3.2.2.1 b hb, dM_b (by omega)]
        · rw [w4.2.1 i (by omega) (by omega), p3.2.1 i (by omega) (by omega) (by omega), dM_out (by omega)]
        · rw [w4.2.2.2 i (by omega), p3.2.2.2 i (by omega), dM_b (by decide)]
        · rw [w5, w6, z8, p3.2.2.2 14 (by decide), dM_b (by decide), m14]
      rcases H with ⟨k, l, t, r, hk, fk, hl, ht2, hrr, p1, p2, y0, y5, y6, y7⟩ | ⟨t, ht2, p1, p2, y0, y5, y6, y7⟩ | ⟨p1, p2, y0, y9⟩
      · refine go _ _ l t r p1 p2 (bM_fb hk) (by unfold bM; simp (disch := omega) only [wr_same, wr_i, wr_b]) (fun j hj => ?_) (fun j hj => ?_) ⟨y0, z1, z2, z3, z4, y5, y6, y7, by unfold bM; simp (disch := omega) only [wr_same, wr_i, wr_b], by unfold bM; simp (disch := omega) only [wr_same, wr_i, wr_b], by unfold bM; simp (disch := omega) only [wr_same, wr_i, wr_b], by unfold bM; simp (disch := omega) only [wr_same, wr_i, wr_b], ha, hwa, by decide, htg, by omega, ht2, hrr⟩
        · rw [(bM_fb hk).1 _ (by omega)]; exact vn1 j hj
        · have : bM (dM 192 F 6 m4) k l t r 1 (234 + 7 * j) = dM 192 F 6 m4 1 (234 + 7 * j) := by unfold bM; simp (disch := omega) only [wr_same, wr_i, wr_b]
          rw [this]; exact R5.vn hj
      · refine go _ _ 2 t 7 p1 p2 (nM_fb _ _ _) (by unfold nM; simp (disch := omega) only [wr_same, wr_i, wr_b]) (fun j hj => ?_) (fun j hj => ?_) ⟨y0, z1, z2, z3, z4, y5, y6, y7, by unfold nM; simp (disch := omega) only [wr_same, wr_i, wr_b]; rfl, by unfold nM; simp (disch := omega) only [wr_same, wr_i, wr_b], by unfold nM; simp (disch := omega) only [wr_same, wr_i, wr_b]; rfl, by unfold nM; simp (disch := omega) only [wr_same, wr_i, wr_b], ha, hwa, by decide, htg, by decide, ht2, by decide⟩
        · rw [nM_1]; exact vn1 j hj
        · rw [nM_1]; exact R5.vn hj
      · have n16 : nM (dM 192 F 6 m4) (-1) 1 0 16 = 1 := by unfold nM; simp (disch := omega) only [wr_same, wr_i, wr_b]
        refine ⟨c1, nM (dM 192 F 6 m4) (-1) 1, ?_, ?_, zo, fun b hb => ?_, fun i hi => ?_, fun i hi => ?_, ?_, Or.inr ⟨y0, Or.inl n16, by rw [y9, n16]⟩⟩
        · unfold fX8_rehearseWalk fX8_finishWalk
          rw [show (0 : Int32) = nI 0 from rfl, p1, bw_eq, fw_end (f := 1999) (i := 0) (by decide) (by rw [y0]; decide), bw_eq]
        · rw [eb _ p2, n16, if_neg one_ne]
          exact as_end (f := 1999)
        · rw [(nM_fb _ _ _).2.2.1 b hb, dM_b (by omega)]
        · rw [nM_1, dM_out (by omega)]
        · rw [(nM_fb _ _ _).2.2.2 i (by omega), dM_b (by decide)]
        · rw [z8, (nM_fb _ _ _).2.2.2 14 (by decide), dM_b (by decide), m14]
    rw [v2, as_val, bw_eq, rs_lp]
    have e14 : rsM 345 (wr (wr m8 1 323 (m8 1 323 + m8 0 14)) 1 325 (m8 1 325 + if m8 0 16 ≤ 0 then 0 else 1)) 0 14 = m8 0 14 := by
      rw [rs_b (by decide)]; simp (disch := omega) only [wr_same, wr_i, wr_b]
    have fR := fin c11 (wr (wr m8 1 323 (m8 1 323 + m8 0 14)) 1 325 (m8 1 325 + if m8 0 16 ≤ 0 then 0 else 1)) v3 (fun b hb => by rw [wr_ne _ _ _ (by omega), wr_ne _ _ _ (by omega), v4 b hb]) (fun i hi => by simp (disch := omega) only [wr_same, wr_i, wr_b]; exact v5 i hi) (fun i hi => by simp (disch := omega) only [wr_same, wr_i, wr_b]; exact v6 i hi)
    refine ⟨_, _, rfl, ?_, Or.inr ⟨c11, l1, v1, ?_, by rw [e14]; exact v7, fR⟩⟩
    · rcases v8 with ⟨x1, x2, x3, ⟨f, hf, x4⟩⟩ | ⟨x1, x2, x3⟩
      · rw [x2, if_pos (by decide), x4, m1ne (by omega)]; exact id
      · rw [if_neg (by rcases x2 with h | h | h | h <;> rw [h] <;> decide)]
        rcases x2 with h | h | h | h <;> rw [h] <;> decide
    · unfold fX6_answer
      rcases v8 with ⟨x1, x2, x3, -⟩ | ⟨x1, x2, x3⟩
      · rw [x1, if_neg (by decide), x2, if_pos (by decide), x3]
      · rw [x1, if_pos rfl, if_neg (by rcases x2 with h | h | h | h <;> rw [h] <;> decide), x3]
  · rw [l3]
    obtain ⟨g1, g2, g3, g4, g5, g6, g7, g8, ⟨l, f, hl, hf, e1, e2, -⟩, -⟩ := q4.full hk fk
    obtain ⟨⟨u, hu, eu⟩, -⟩ := q6.1 k hk fk
    have hrs : a % 8 ^ l < 64 := by
      obtain ⟨-, -, p, q⟩ := wid_eq l hl
      exact Nat.lt_of_lt_of_le (Nat.mod_lt _ p) q
    have b60 : fX9_asks_b60 (dM 192 P 6 m4) (nI a) (nI (192 + 7 * k)) = some (wr (wr (wr (dM 192 P 6 m4) 1 320 (dM 192 P 6 m4 1 320 + 1)) 1 (192 + 7 * k + 6) (dM 192 P 6 m4 1 320 + 1)) 1 322 (dM 192 P 6 m4 1 322 + 1), nI (u + a % 8 ^ l)) := by
      have i1 : dM 192 P 6 m4 1 (192 + 7 * k + 1) = nI l := by rw [dM_i (by decide) (by decide), m1 _ (by omega)]; exact e1
      have i3 : dM 192 P 6 m4 1 (192 + 7 * k + 3) = nI u := by rw [dM_i (by decide) (by decide), m1 _ (by omega)]; exact eu
      unfold fX9_asks_b60
      rw [used_sp (by omega), bw_eq]
      simp (disch := omega) only [eq_self, l21, l12, l20, na0, Nat.reduceAdd, wk_eq, lk_eq, lkN_eq, bd_eq, bw_eq, gd_nI, nI_clamp, na1, na2, na3, na4, na5, na6, na7, na8, na9, i192, i234, i276, i326, i332, i338, i96, i0, i8, ge6F, ge6T, ge4F, ge4T, ltz, lez, Nat.one_mul, if_true, if_false, one_ne, one_eq0, zero_eq0, wr0_1, glit320, glit321, glit322, glit323, glit324, glit325, glit344, cl320, cl321, cl322, cl323, cl324, cl325, cl344, wr_i, i1, i3]
      rw [nz_wide hl, remw hl ha, nI_add]
    rw [b60, bw_eq, rs_lp]
    have e14 : rsM 345 (wr (wr (wr (dM 192 P 6 m4) 1 320 (dM 192 P 6 m4 1 320 + 1)) 1 (192 + 7 * k + 6) (dM 192 P 6 m4 1 320 + 1)) 1 322 (dM 192 P 6 m4 1 322 + 1)) 0 14 = 0 := by
      rw [rs_b (by decide), wr_b _ _ _ _ (by decide), wr_b _ _ _ _ (by decide), wr_b _ _ _ _ (by decide), dM_b (by decide)]; exact m14
    have fR := fin c (wr (wr (wr (dM 192 P 6 m4) 1 320 (dM 192 P 6 m4 1 320 + 1)) 1 (192 + 7 * k + 6) (dM 192 P 6 m4 1 320 + 1)) 1 322 (dM 192 P 6 m4 1 322 + 1)) (fun _ _ _ => rfl) (fun b hb => by rw [wr_ne _ _ _ (by omega), wr_ne _ _ _ (by omega), wr_ne _ _ _ (by omega), dM_b (by omega)]) (fun i hi => by simp (disch := omega) only [wr_same, wr_i, wr_b]; exact dM_out (by omega)) (fun i hi => by rw [wr_b _ _ _ _ (by decide), wr_b _ _ _ _ (by decide), wr_b _ _ _ _ (by decide), dM_b (by decide)])
    refine ⟨_, _, rfl, by rw [m1ne (by omega)]; exact id, Or.inl ⟨k, hk, l1, ?_, e14, fR⟩⟩
    unfold fX3_frameAt
    rw [g6, g4, eu, e1, rest_eq l hl a ha, nI_add]
theorem st_would : St_would Rel := by
  intro n cap cm mm a1 a2 hn hr
  have h0 : Rel n cap cm (wr mm 0 0 0) := hr.scr Sc.rf (Sm.wr0 (m := mm) 0 0 (by decide))
  unfold fX9_would
  rw [wk_eq]
  generalize wr mm 0 0 0 = m0 at h0
  unfold fX8_would
  have hN := h0.mono
  rcases may_both (a1 := a1) (a2 := a2) h0.2.1 with ⟨p1, p2⟩ | ⟨a, wa, s, tg, ha, hwa, hs, htg, rfl, rfl, hcur, het, p1, p2⟩
  · rw [p1, p2, bd_eq, bd_eq, if_pos rfl, if_pos rfl]
    exact ⟨_, _, -1, rfl, rfl, hN⟩
  rw [p1, p2, bd_eq, bd_eq, if_neg one_ne, if_neg one_ne]
  obtain ⟨m', v, f1, f2, f3⟩ := fore_both h0 hn ha hwa hs htg hcur het
  rw [f1, bw_eq]
  rcases f3 with ⟨k, hk, l1, l2, l3, l4⟩ | ⟨c', l1, l2, l3, l4, l5⟩
  · rw [l1, bd_eq, oc_some _ _ (isPl9 k hk), l2, bd_eq]
    exact ⟨_, _, _, rfl, rfl, l4⟩
  · rw [l1, bd_eq, oc_none, l2, bw_eq, l3, bd_eq]
    exact ⟨_, _, _, rfl, rfl, l5⟩
theorem st_steps : St_steps Rel := by
  intro n cap cm mm a1 a2 hn hr
  have h0 : Rel n cap cm (wr mm 0 0 0) := hr.scr Sc.rf (Sm.wr0 (m := mm) 0 0 (by decide))
  unfold fX9_steps
  rw [wk_eq]
  generalize wr mm 0 0 0 = m0 at h0
  unfold fX8_steps
  have hN := h0.mono
  rcases may_both (a1 := a1) (a2 := a2) h0.2.1 with ⟨p1, p2⟩ | ⟨a, wa, s, tg, ha, hwa, hs, htg, rfl, rfl, hcur, het, p1, p2⟩
  · rw [p1, p2, bd_eq, bd_eq, if_pos rfl, if_pos rfl]
    exact ⟨_, _, -1, rfl, rfl, hN⟩
  rw [p1, p2, bd_eq, bd_eq, if_neg one_ne, if_neg one_ne]
  obtain ⟨m', v, f1, f2, f3⟩ := fore_both h0 hn ha hwa hs htg hcur het
  rw [f1, bw_eq, if_neg f2]
  rcases f3 with ⟨k, hk, l1, l2, l3, l4⟩ | ⟨c', l1, l2, l3, l4, l5⟩
  · rw [l1, bd_eq, oc_some _ _ (isPl9 k hk), l3]
    exact ⟨_, _, _, rfl, rfl, l4⟩
  · rw [l1, bd_eq, oc_none, l2, bw_eq, l4]
    exact ⟨_, _, _, rfl, rfl, l5⟩
