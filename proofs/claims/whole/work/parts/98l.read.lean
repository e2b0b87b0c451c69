/-! PURE: one entry of a walk, both sides -/
theorem mk1 : ∀ mk, mk < 4 → (nI mk ||| ((1 : Int32) &&& (nI mk ^^^ -1)) = nI (mk ||| 1)) ∧ ((nI mk ||| 1) ||| 0 = nI (mk ||| 1)) ∧ (((1 : Int32) &&& (nI mk ^^^ -1)) = 0 ↔ mk ||| 1 = mk) ∧ (nI (mk ||| 1) = nI mk ↔ mk ||| 1 = mk) ∧ mk ||| 1 < 4 ∧ ¬ (nI (mk ||| 1) &&& 1 = 0) := by decide +kernel
theorem mk3 : ∀ mk, mk < 4 → (nI mk ||| ((3 : Int32) &&& (nI mk ^^^ -1)) = nI (mk ||| 3)) ∧ ((nI mk ||| 1) ||| 2 = nI (mk ||| 3)) ∧ (((3 : Int32) &&& (nI mk ^^^ -1)) = 0 ↔ mk ||| 3 = mk) ∧ (nI (mk ||| 3) = nI mk ↔ mk ||| 3 = mk) ∧ mk ||| 3 < 4 ∧ ¬ (nI (mk ||| 3) &&& 1 = 0) := by decide +kernel
theorem mkD : ∀ mk, mk < 4 → ((nI mk >>> ((1 : Int32) &&& 31)) &&& 1 = nI (mk / 2)) ∧ (nI mk &&& 2 = 0 → mk / 2 = 0) ∧ (¬ nI mk &&& 2 = 0 → mk / 2 = 1) := by decide +kernel
theorem b39_sp {c : Mm} {w x mk s : Nat} (hw : 24 ≤ w) (hx : x < 96) (hmk : mk < 4) (h2 : c 2 x = nI mk) (hs : s = 1 ∨ s = 3) : ∃ c', fX8_setMarks_b39 c w (nI x) 1 (nI s) = some (c', ()) ∧ c' 2 x = nI (mk ||| s) ∧ (∀ i, i ≠ x → c' 2 i = c 2 i) ∧ c' w 8 = c w 8 + (if mk ||| s = mk then 0 else 1) ∧ (∀ i, i ≠ 8 → c' w i = c w i) ∧ ∀ b, b ≠ 2 → b ≠ w → c' b = c b := by
  have tab : (nI mk ||| (nI s &&& (nI mk ^^^ -1)) = nI (mk ||| s)) ∧ ((nI s &&& (nI mk ^^^ -1)) = 0 ↔ mk ||| s = mk) := by
    rcases hs with rfl | rfl
    · exact ⟨(mk1 mk hmk).1, (mk1 mk hmk).2.2.1⟩
    · exact ⟨(mk3 mk hmk).1, (mk3 mk hmk).2.2.1⟩
  unfold fX8_setMarks_b39 fX8_setMarks_b79
  rw [gd_nI hx (by decide), lk_eq, if_neg one_ne, gd_nI hx (by decide), gd_nI hx (by decide), wk_eq, nI_clamp (by omega), h2, tab.1]
  by_cases h : mk ||| s = mk
  · rw [if_pos (tab.2.mpr h), if_pos h]
    refine ⟨_, rfl, wr_same _ _ _ _, fun i hi => wr_i _ _ _ hi, ?_, fun i hi => wr_b _ _ _ _ (by omega), fun b h1 h2 => wr_ne _ _ _ h1⟩
    rw [wr_b _ _ _ _ (by omega)]
    exact (Int32.add_zero _).symm
  · rw [if_neg (fun z => h (tab.2.mp z)), if_neg h, wk_eq]
    refine ⟨_, rfl, ?_, fun i hi => ?_, ?_, fun i hi => ?_, fun b h1 h2 => ?_⟩
    · rw [wr_b _ _ _ _ (by omega), wr_same]
    · rw [wr_b _ _ _ _ (by omega), wr_i _ _ _ hi]
    · rw [wr_same, wr_b _ _ _ _ (by omega)]
    · rw [wr_i _ _ _ hi, wr_b _ _ _ _ (by omega)]
    · rw [wr_ne _ _ _ h2, wr_ne _ _ _ h1]
def sOf (κ wa : Int32) : Nat := if κ = 2 then (if wa &&& 1 = 0 then 1 else 3) else 1
theorem sOf_c (κ wa : Int32) : sOf κ wa = 1 ∨ sOf κ wa = 3 := by
  unfold sOf
  split
  · split
    · exact Or.inl rfl
    · exact Or.inr rfl
  · exact Or.inl rfl
theorem setm_live {c : Mm} {w x mk : Nat} (hw : 24 ≤ w) (hx : x < 96) (hmk : mk < 4) (h2 : c 2 x = nI mk) : ∃ c', fX8_setMarks c w (nI x) 1 = some (c', ()) ∧ c' 2 x = nI (mk ||| sOf (fX9_whatOf (c 1 x)) (c w 2)) ∧ (∀ i, i ≠ x → c' 2 i = c 2 i) ∧ c' w 8 = c w 8 + (if mk ||| sOf (fX9_whatOf (c 1 x)) (c w 2) = mk then 0 else 1) ∧ (∀ i, i ≠ 8 → c' w i = c w i) ∧ ∀ b, b ≠ 2 → b ≠ w → c' b = c b := by
  unfold fX8_setMarks fX8_setMarks_b27 sOf
  rw [gd_nI hx (by decide), nI_clamp (by omega), kind_eq]
  by_cases h : fX9_whatOf (c 1 x) = 2
  · rw [if_pos h, if_pos h]
    by_cases h3 : c w 2 &&& 1 = 0
    · rw [if_pos h3, if_pos h3, if_pos rfl]
      exact b39_sp hw hx hmk h2 (Or.inl rfl)
    · rw [if_neg h3, if_neg h3, if_neg one_ne]
      exact b39_sp hw hx hmk h2 (Or.inr rfl)
  · rw [if_neg h, if_neg h, if_pos rfl]
    exact b39_sp hw hx hmk h2 (Or.inl rfl)
theorem b142_sp {m : Mm} {x mk s : Nat} {tg a code κ s1 : Int32} (hx : x < 96) (h2 : m 1 (96 + x) = nI mk) (hs : (nI mk ||| 1) ||| s1 = nI (mk ||| s)) (hq : nI (mk ||| s) = nI mk ↔ mk ||| s = mk) : fX9_reads_b142 m tg a 0 (nI x) code κ (nI mk ||| 1) s1 = fX9_reads_b211 (wr (wr m 0 14 (m 0 14 + (if mk ||| s = mk then 0 else 1))) 1 (96 + x) (nI (mk ||| s))) tg a (nI x) code κ 1 := by
  unfold fX9_reads_b142 fX9_reads_b170 fX9_reads_b186
  rw [lk_eq, hs]
  simp (disch := omega) only [eq_self, l21, l12, l20, na0, Nat.reduceAdd, wk_eq, lk_eq, lkN_eq, bd_eq, bw_eq, gd_nI, nI_clamp, na1, na2, na3, na4, na5, na6, na7, na8, na9, i192, i234, i276, i326, i332, i338, i96, i0, i8, ge6F, ge6T, ge4F, ge4T, ltz, lez, Nat.one_mul, if_true, if_false, one_ne, one_eq0, zero_eq0, wr0_1, glit320, glit321, glit322, glit323, glit324, glit325, glit344, cl320, cl321, cl322, cl323, cl324, cl325, cl344, h2]
  by_cases h : mk ||| s = mk
  · rw [if_pos (hq.mpr h), if_pos h]
  · rw [if_neg (fun z => h (hq.mp z)), if_neg h]
theorem setm_ref {m : Mm} {x mk : Nat} {tg a wa code κ : Int32} (hx : x < 96) (hmk : mk < 4) (h2 : m 1 (96 + x) = nI mk) : (gd ((96 : Int32) + nI x) 345 (if κ = (2 : Int32) then if (wa &&& (1 : Int32)) = 0 then fX9_reads_b142 m tg a 0 (nI x) code κ ((m 1 ((96 : Int32) + nI x).toNatClampNeg) ||| (1 : Int32)) (0 : Int32) else fX9_reads_b142 m tg a 0 (nI x) code κ ((m 1 ((96 : Int32) + nI x).toNatClampNeg) ||| (1 : Int32)) (2 : Int32) else fX9_reads_b142 m tg a 0 (nI x) code κ ((m 1 ((96 : Int32) + nI x).toNatClampNeg) ||| (1 : Int32)) (0 : Int32))) = fX9_reads_b211 (wr (wr m 0 14 (m 0 14 + (if mk ||| sOf κ wa = mk then 0 else 1))) 1 (96 + x) (nI (mk ||| sOf κ wa))) tg a (nI x) code κ 1 := by
  rw [i96, gd_nI (by omega) (by decide), nI_clamp (by omega), h2]
  unfold sOf
  by_cases h : κ = 2
  · rw [if_pos h, if_pos h]
    by_cases h3 : wa &&& 1 = 0
    · rw [if_pos h3, if_pos h3]
      exact b142_sp hx h2 (mk1 mk hmk).2.1 (mk1 mk hmk).2.2.2.1
    · rw [if_neg h3, if_neg h3]
      exact b142_sp hx h2 (mk3 mk hmk).2.1 (mk3 mk hmk).2.2.2.1
  · rw [if_neg h, if_neg h]
    exact b142_sp hx h2 (mk1 mk hmk).2.1 (mk1 mk hmk).2.2.2.1
theorem tk_o {c : Mm} {q p z i : Nat} {tg l f : Int32} (h1 : z ≠ q) (h2 : z ≠ p) : tkC c q p tg l f z i = c z i := by
  unfold tkC
  rw [wr_b _ _ _ _ h2, wr_b _ _ _ _ h1, wr_b _ _ _ _ h2, wr_b _ _ _ _ h2, wr_b _ _ _ _ h2, wr_b _ _ _ _ h2]
theorem bring_pg {c : Mm} {w x k a l tg mk : Nat} {ρ : Int32} (hx : x < 96) (hk : k < 6) (ha : a < 512) (hl : l < 3) (h1 : c w 1 = nI a) (h4 : c w 4 = nI tg) (h5 : c w 5 = nI l) (hc : fX9_whatOf (c 1 x) = 2) (hmk : mk < 4) (h2 : c 2 x = nI mk) (ht : fX5_take c 7 (nI tg) (nI l) (nI (a - a % 8 ^ l)) = some (tkC c 7 (9 + k) (nI tg) (nI l) (nI (a - a % 8 ^ l)), some (9 + k))) : fX8_bringToCaches c w (nI x) ρ = some (wr (wr (wr (tkC c 7 (9 + k) (nI tg) (nI l) (nI (a - a % 8 ^ l))) (9 + k) 4 (fX9_targetOf (c 1 x))) (9 + k) 5 (ρ ||| (fX9_rightsOf (c 1 x) &&& 8))) (9 + k) 6 (nI (mk / 2)), ()) := by
  unfold fX8_bringToCaches fX8_bringToCaches_b22 fX8_bringToCaches_b40 fX8_bringToCaches_b99
  rw [gd_nI hx (by decide), nI_clamp (by omega), lk_eq, kind_eq, if_pos hc, if_neg one_ne, h4, h5, h1, first_eq hl ha, ht, bw_eq, oc_some _ _ (isPl9 k hk), wk_eq, if_neg one_ne, wk_eq, if_neg one_ne, gd_nI hx (by decide), wr_b _ _ _ _ (by omega), wr_b _ _ _ _ (by omega), tk_o (by omega) (by omega), h2]
  by_cases h : nI mk &&& 2 = 0
  · rw [if_pos h, wk_eq, (mkD mk hmk).2.1 h]; rfl
  · rw [if_neg h, wk_eq, (mkD mk hmk).2.2 h]; rfl
theorem bring_up {c : Mm} {w x k a l tg : Nat} {ρ : Int32} (hx : x < 96) (hk : k < 6) (ha : a < 512) (hl : l < 3) (h1 : c w 1 = nI a) (h4 : c w 4 = nI tg) (h5 : c w 5 = nI l) (hc : ¬ fX9_whatOf (c 1 x) = 2) (ht : fX5_take c 15 (nI tg) (nI l) (nI (a - a % 8 ^ l)) = some (tkC c 15 (17 + k) (nI tg) (nI l) (nI (a - a % 8 ^ l)), some (17 + k))) : fX8_bringToCaches c w (nI x) ρ = some (wr (wr (wr (tkC c 15 (17 + k) (nI tg) (nI l) (nI (a - a % 8 ^ l))) (17 + k) 4 (fX9_targetOf (c 1 x))) (17 + k) 5 ρ) (17 + k) 6 (nI 0), ()) := by
  unfold fX8_bringToCaches fX8_bringToCaches_b22 fX8_bringToCaches_b40 fX8_bringToCaches_b99
  rw [gd_nI hx (by decide), nI_clamp (by omega), lk_eq, kind_eq, if_neg hc, if_pos rfl, h4, h5, h1, first_eq hl ha, ht, bw_eq, oc_some _ _ (isPl17 k hk), wk_eq, if_pos rfl, wk_eq, if_pos rfl, wk_eq]
  rfl
/-- the end of an entry that is a page -/
theorem tail_pg {n B cap w a l x u : Nat} {c m : Mm} {code ρ : Int32} (hC : Core n B cap c m) (hB : B < 2 ^ 30) (hw : 24 ≤ w ∧ w ≤ 32) (ha : a < 512) (hl : l < 3) (hu : u < 1000) (h1 : c w 1 = nI a) (h5 : c w 5 = nI l) (hk : fX9_whatOf code = 2) (ht : fX9_targetOf code = nI u) (m11 : m 0 11 = nI l) (m16 : m 0 16 = 0) : ∃ c' m', fX8_readEntry_b118 c w (nI x) code ρ = some (c', ()) ∧ fX9_reads_b318 m (nI a) code = some (m', 0) ∧ Core n B cap c' m' ∧ FrC w c c' ∧ FrM m m' ∧ (∀ i, 1 ≤ i → i ≤ 4 → c' w i = c w i) ∧ c' w 8 = c w 8 ∧ m' 0 14 = m 0 14 ∧ Out w l c' m' 0 := by
  have e1 : fX8_readEntry_b118 c w (nI x) code ρ = some (wr (wr (wr c (w + 1) l (nI x)) w 0 2) w 9 (nI (u + a % 8 ^ l)), ()) := by
    unfold fX8_readEntry_b118 fX6_finish
    rw [h5, gd_nI hl (by decide), wk_eq, nI_clamp (by omega), kind_eq, if_pos hk, wk_eq, wk_eq, bw_eq, wr_b _ _ _ _ (by omega), wr_b _ _ _ _ (by omega), h1, h5, targ_eq, ht, rest_eq l hl a ha, nI_add]
  have e2 : fX9_reads_b318 m (nI a) code = some (wr m 0 15 (nI (u + a % 8 ^ l)), 0) := by
    unfold fX9_reads_b318
    rw [m11, nz_wide hl, remw hl ha, ht, nI_add, wk_eq]
  have hr : a % 8 ^ l < 64 := by
    obtain ⟨-, -, p, q⟩ := wid_eq l hl
    exact Nat.lt_of_lt_of_le (Nat.mod_lt _ p) q
  refine ⟨_, _, e1, e2, ?_, ?_, ?_, fun i h2 h3 => ?_, ?_, ?_, Or.inr (Or.inl ⟨rfl, ?_, ?_, ?_, ?_⟩)⟩
  · refine hC.cg hB (hC.1.cg ?_ ?_ (fun i _ _ => wr_b _ _ _ _ (by decide))) (fun b h2 h3 => ?_) (fun i _ => wr_b _ _ _ _ (by decide)) (wr_i _ _ _ (by decide)) (wr_i _ _ _ (by decide)) (wr_i _ _ _ (by decide)) (fun b h2 h3 => wr_ne _ _ _ (by omega))
    · rw [wr_ne _ _ _ (by omega), wr_ne _ _ _ (by omega), wr_ne _ _ _ (by omega)]
    · rw [wr_ne _ _ _ (by omega), wr_ne _ _ _ (by omega), wr_ne _ _ _ (by omega)]
    · rw [wr_ne _ _ _ (by omega), wr_ne _ _ _ (by omega), wr_ne _ _ _ (by omega)]
  · intro b _ _ _ _ _ h6 h7
    rw [wr_ne _ _ _ h6, wr_ne _ _ _ h6, wr_ne _ _ _ h7]
  · exact ⟨fun i _ => wr_b _ _ _ _ (by decide), fun i _ _ => wr_b _ _ _ _ (by decide), fun b hb => wr_ne _ _ _ (by omega), fun i hi => wr_i _ _ _ (by omega)⟩
  · simp (disch := omega) only [wr_same, wr_i, wr_b]
  · simp (disch := omega) only [wr_same, wr_i, wr_b]
  · simp (disch := omega) only [wr_same, wr_i, wr_b]
  · simp (disch := omega) only [wr_same, wr_i, wr_b]
  · rw [wr_i _ _ _ (by decide)]; exact m16
  · simp (disch := omega) only [wr_same, wr_i, wr_b]
  · rw [wr_same]
    exact ⟨_, by omega, rfl⟩
/-- the end of an entry that leads to a table -/
theorem tail_up {n B cap w l x u r : Nat} {c m : Mm} {code : Int32} (hC : Core n B cap c m) (hB : B < 2 ^ 30) (hw : 24 ≤ w ∧ w ≤ 32) (hl : l < 3) (hl0 : 0 < l) (hu : u < 12) (hr : r < 8) (h5 : c w 5 = nI l) (hk : ¬ fX9_whatOf code = 2) (ht : fX9_targetOf code = nI u) (m11 : m 0 11 = nI l) (m13 : m 0 13 = nI r) (m16 : m 0 16 = 0) : ∃ c' m', fX8_readEntry_b118 c w (nI x) code (nI r) = some (c', ()) ∧ fX9_reads_b247 m code = some (m', 1) ∧ Core n B cap c' m' ∧ FrC w c c' ∧ FrM m m' ∧ (∀ i, 1 ≤ i → i ≤ 4 → c' w i = c w i) ∧ c' w 8 = c w 8 ∧ m' 0 14 = m 0 14 ∧ Out w l c' m' 1 := by
  have el : nI l - 1 = nI (l - 1) := pk_sub (b := 1) hl0
  have e1 : fX8_readEntry_b118 c w (nI x) code (nI r) = some (wr (wr (wr (wr (wr c (w + 1) l (nI x)) w 0 1) w 5 (nI (l - 1))) w 6 (nI u)) w 7 (nI r), ()) := by
    unfold fX8_readEntry_b118 fX6_leadOn
    rw [h5, gd_nI hl (by decide), wk_eq, nI_clamp (by omega), kind_eq, if_neg hk, wk_eq, wk_eq, wk_eq, wk_eq, bw_eq, wr_b _ _ _ _ (by omega), h5, targ_eq, ht, el]
  have e2 : fX9_reads_b247 m code = some (wr (wr m 0 12 (nI u)) 0 11 (nI (l - 1)), 1) := by
    unfold fX9_reads_b247
    rw [wk_eq, wk_eq, wr_i _ _ _ (by decide), m11, ht, el]
  refine ⟨_, _, e1, e2, ?_, ?_, ?_, fun i h2 h3 => ?_, ?_, ?_, Or.inl ⟨rfl, hl0, ?_, ?_, u, r, hu, hr, ?_, ?_, ?_, ?_, ?_, ?_⟩⟩
  · refine hC.cg hB (hC.1.cg ?_ ?_ (fun i _ _ => ?_)) (fun b h2 h3 => ?_) (fun i _ => ?_) ?_ ?_ ?_ (fun b h2 h3 => ?_)
    · rw [wr_ne _ _ _ (by omega), wr_ne _ _ _ (by omega), wr_ne _ _ _ (by omega), wr_ne _ _ _ (by omega), wr_ne _ _ _ (by omega)]
    · rw [wr_ne _ _ _ (by omega), wr_ne _ _ _ (by omega), wr_ne _ _ _ (by omega), wr_ne _ _ _ (by omega), wr_ne _ _ _ (by omega)]
    · simp (disch := omega) only [wr_same, wr_i, wr_b]
    · rw [wr_ne _ _ _ (by omega), wr_ne _ _ _ (by omega), wr_ne _ _ _ (by omega), wr_ne _ _ _ (by omega), wr_ne _ _ _ (by omega)]
    · simp (disch := omega) only [wr_same, wr_i, wr_b]
    · simp (disch := omega) only [wr_same, wr_i, wr_b]
    · simp (disch := omega) only [wr_same, wr_i, wr_b]
    · simp (disch := omega) only [wr_same, wr_i, wr_b]
    · rw [wr_ne _ _ _ (by omega), wr_ne _ _ _ (by omega)]
  · intro b _ _ _ _ _ h6 h7
    rw [wr_ne _ _ _ h6, wr_ne _ _ _ h6, wr_ne _ _ _ h6, wr_ne _ _ _ h6, wr_ne _ _ _ h7]
  · exact ⟨fun i _ => by simp (disch := omega) only [wr_same, wr_i, wr_b], fun i _ _ => by simp (disch := omega) only [wr_same, wr_i, wr_b], fun b hb => by rw [wr_ne _ _ _ (by omega), wr_ne _ _ _ (by omega)], fun i hi => by simp (disch := omega) only [wr_same, wr_i, wr_b]⟩
  · simp (disch := omega) only [wr_same, wr_i, wr_b]
  · simp (disch := omega) only [wr_same, wr_i, wr_b]
  · simp (disch := omega) only [wr_same, wr_i, wr_b]
  · simp (disch := omega) only [wr_same, wr_i, wr_b]
  · simp (disch := omega) only [wr_same, wr_i, wr_b]
    exact m16
  · simp (disch := omega) only [wr_same, wr_i, wr_b]
  · simp (disch := omega) only [wr_same, wr_i, wr_b]
  · simp (disch := omega) only [wr_same, wr_i, wr_b]
  · simp (disch := omega) only [wr_same, wr_i, wr_b]
  · simp (disch := omega) only [wr_same, wr_i, wr_b]
  · simp (disch := omega) only [wr_same, wr_i, wr_b]
    exact m13
