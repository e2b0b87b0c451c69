/-! PURE: one entry of a walk that leaves marks and comes to the caches -/
def Fin (n B cap w l : Nat) (c m c' m' : Mm) (res : Int32) : Prop := Core n B cap c' m' ∧ FrC w c c' ∧ FrM m m' ∧ (∀ i, 1 ≤ i → i ≤ 4 → c' w i = c w i) ∧ Out w l c' m' res
theorem put_fr {w k : Nat} {tg l f to ri di : Int32} {c c' : Mm} (hk : k < 6) (h : PutC 9 7 k tg l f to ri di c c') : FrC w c c' := fun b h1 h2 h3 h4 h5 h6 h7 => h.2.2.2.2.2.2.2.2.2 b h2 (by omega)
theorem put_frU {w k : Nat} {tg l f to ri di : Int32} {c c' : Mm} (hk : k < 6) (h : PutC 17 15 k tg l f to ri di c c') : FrC w c c' := fun b h1 h2 h3 h4 h5 h6 h7 => h.2.2.2.2.2.2.2.2.2 b h4 (by omega)
theorem putM_fr {a k : Nat} {tg l f to ri di : Int32} {m m' : Mm} (hk : k < 6) (ha : a = 192 ∨ a = 234) (h : PutM a k tg l f to ri di m m') : FrM m m' := by
  obtain ⟨-, -, -, -, -, -, -, -, mo, mz⟩ := h
  exact ⟨fun i hi => mo i (by omega) (by omega), fun i hi h2 => mo i h2 (by omega), fun b hb => mz b (by omega), fun i _ => by rw [mz 0 (by decide)]⟩
theorem md_le (a l : Nat) : (a - a % 8 ^ l) % 8 ^ l = 0 := by
  have h := Nat.div_add_mod a (8 ^ l)
  have e : a - a % 8 ^ l = 8 ^ l * (a / 8 ^ l) := by omega
  rw [e]
  exact Nat.mul_mod_right _ _
theorem rd_pg {n B cap w a l tg x u r ro mk : Nat} {c m : Mm} {code sb : Int32} (hC : Core n B cap c m) (hB : B + 1 < 2 ^ 30) (hw : 24 ≤ w ∧ w ≤ 32) (ha : a < 512) (hl : l < 3) (htg : tg < 3) (hx : x < 96) (hu : u < 1000) (hr : r < 8) (hro : ro < 16) (hmk : mk < 4) (h1 : c w 1 = nI a) (h4 : c w 4 = nI tg) (h5 : c w 5 = nI l) (hco : m 1 x = code) (hk : fX9_whatOf code = 2) (ht : fX9_targetOf code = nI u) (hrt : fX9_rightsOf code = nI ro) (h2 : m 1 (96 + x) = nI mk) (m11 : m 0 11 = nI l) (m13 : m 0 13 = nI r) (m16 : m 0 16 = 0) (held : ∃ s, s < 6 ∧ m 1 (332 + s) = nI tg) (hsb : (sb = 1 ∧ ¬ nI mk &&& 1 = 0) ∨ (sb = 0 ∧ nI mk &&& 1 = 0)) : ∃ c' m', fX8_readEntry_b95 c w 1 (nI x) code (nI r) = some (c', ()) ∧ fX9_reads_b211 m (nI tg) (nI a) (nI x) code 2 sb = some (m', 0) ∧ c' w 8 = c w 8 ∧ m' 0 14 = m 0 14 ∧ Fin n (B + 1) cap w l c m c' m' 0 := by
  have g1 : c 1 x = code := (hC.1 x hx).1.trans hco
  have g2 : c 2 x = nI mk := (hC.1 x hx).2.1.trans h2
  unfold fX8_readEntry_b95 fX9_reads_b211
  rw [if_neg one_ne, gd_nI hx (by decide), nI_clamp (by omega), g2, if_neg (show ¬ (2 : Int32) = 1 by decide)]
  rcases hsb with ⟨rfl, hb⟩ | ⟨rfl, hb⟩
  · rw [if_neg hb, if_neg one_ne, i96, gd_nI (by omega) (by decide), nI_clamp (by omega), h2, (mkD mk hmk).1, m11, m13, ht, hrt, show (8 : Int32) = nI 8 from rfl, fa_and, fa_or]
    obtain ⟨k, m3, hk6, t1, t2, t3, t4⟩ := come_both (q := 7) (a := 192) (g := tg) (l := l) (ad := a) (to := nI u) (ri := nI (r ||| (ro &&& 8))) (di := nI (mk / 2)) hC.2.2.2.1 (by omega) (by decide) (fun k hk => by
      have := isPl9 k hk
      exact this) htg hl ha
    have hri : r ||| (ro &&& 8) < 16 := Nat.or_lt_two_pow (n := 4) (by omega) (Nat.lt_of_le_of_lt Nat.and_le_left hro)
    have bp := bring_pg (ρ := nI r) hx hk6 ha hl h1 h4 h5 (by rw [g1]; exact hk) hmk g2 t1
    rw [g1, ht, hrt, show (8 : Int32) = nI 8 from rfl, fa_and, fa_or] at bp
    have pc := tk_put (c := c) (q := 7) (k := k) (tg := nI tg) (l := nI l) (f := nI (a - a % 8 ^ l)) (to := nI u) (ri := nI (r ||| (ro &&& 8))) (di := nI (mk / 2))
    rw [bp, bw_eq, show (192 : Int32) = nI 192 from rfl, t2, bw_eq]
    have pcs := pc
    obtain ⟨c1, c2, c3, c4, c5, c6, c7, c8, c9, co⟩ := pcs
    have C3 := hC.putP hB hk6 htg hl (Nat.lt_of_le_of_lt (Nat.sub_le _ _) ha) (md_le a l) (show mk / 2 < 2 by omega) hu hri held pc t3 t4
    have hwb : ∀ b, 24 ≤ b → _ := fun b hb => co b (by omega) (by omega)
    have mz0 := t3.2.2.2.2.2.2.2.2.2 0 (by decide)
    obtain ⟨c', m', z1, z2, z3, z4, z5, z6, z7, z8, z9⟩ := tail_pg (x := x) (code := code) (ρ := nI r) (u := u) C3 hB hw ha hl hu ((congrFun (hwb w hw.1) 1).trans h1) ((congrFun (hwb w hw.1) 5).trans h5) hk ht (by rw [mz0]; exact m11) (by rw [mz0]; exact m16)
    refine ⟨c', m', z1, z2, z7.trans (congrFun (hwb w hw.1) 8), z8.trans (by rw [mz0]), z3, (put_fr hk6 pc).tr z4, (putM_fr hk6 (Or.inl rfl) t3).tr z5, fun i h1 h2 => (z6 i h1 h2).trans (congrFun (hwb w hw.1) i), z9⟩
  · rw [if_pos hb, if_pos rfl]
    obtain ⟨c', m', z1, z2, z3, z4, z5, z6, z7, z8, z9⟩ := tail_pg (x := x) (code := code) (ρ := nI r) (u := u) hC (by omega) hw ha hl hu h1 h5 hk ht m11 m16
    exact ⟨c', m', z1, z2, z7, z8, z3.le (by omega), z4, z5, z6, z9⟩
theorem rd_up {n B cap w a l tg x u r mk : Nat} {c m : Mm} {code sb : Int32} (hC : Core n B cap c m) (hB : B + 1 < 2 ^ 30) (hw : 24 ≤ w ∧ w ≤ 32) (ha : a < 512) (hl : l < 3) (hl0 : 0 < l) (htg : tg < 3) (hx : x < 96) (hu : u < 12) (hr : r < 8) (h1 : c w 1 = nI a) (h4 : c w 4 = nI tg) (h5 : c w 5 = nI l) (hco : m 1 x = code) (hk : fX9_whatOf code = 1) (ht : fX9_targetOf code = nI u) (h2 : m 1 (96 + x) = nI mk) (m11 : m 0 11 = nI l) (m13 : m 0 13 = nI r) (m16 : m 0 16 = 0) (held : ∃ s, s < 6 ∧ m 1 (332 + s) = nI tg) (hsb : (sb = 1 ∧ ¬ nI mk &&& 1 = 0) ∨ (sb = 0 ∧ nI mk &&& 1 = 0)) : ∃ c' m', fX8_readEntry_b95 c w 1 (nI x) code (nI r) = some (c', ()) ∧ fX9_reads_b211 m (nI tg) (nI a) (nI x) code 1 sb = some (m', 1) ∧ c' w 8 = c w 8 ∧ m' 0 14 = m 0 14 ∧ Fin n (B + 1) cap w l c m c' m' 1 := by
  have g1 : c 1 x = code := (hC.1 x hx).1.trans hco
  have g2 : c 2 x = nI mk := (hC.1 x hx).2.1.trans h2
  have nk : ¬ fX9_whatOf code = 2 := by rw [hk]; decide
  unfold fX8_readEntry_b95 fX9_reads_b211
  rw [if_neg one_ne, gd_nI hx (by decide), nI_clamp (by omega), g2, if_pos rfl]
  rcases hsb with ⟨rfl, hb⟩ | ⟨rfl, hb⟩
  · rw [if_neg hb, if_neg one_ne, m11, m13, ht]
    obtain ⟨k, m3, hk6, t1, t2, t3, t4⟩ := come_both (q := 15) (a := 234) (g := tg) (l := l) (ad := a) (to := nI u) (ri := nI r) (di := nI 0) hC.2.2.2.2.1 (by omega) (by decide) (fun k hk => by
      have := isPl17 k hk
      exact this) htg hl ha
    have bp := bring_up (ρ := nI r) hx hk6 ha hl h1 h4 h5 (by rw [g1]; exact nk) t1
    rw [g1, ht] at bp
    have pc := tk_put (c := c) (q := 15) (k := k) (tg := nI tg) (l := nI l) (f := nI (a - a % 8 ^ l)) (to := nI u) (ri := nI r) (di := nI 0)
    rw [bp, bw_eq, show (234 : Int32) = nI 234 from rfl, show (0 : Int32) = nI 0 from rfl, t2, bw_eq]
    have pcs := pc
    obtain ⟨c1, c2, c3, c4, c5, c6, c7, c8, c9, co⟩ := pcs
    have C3 := hC.putU hB hk6 htg hl hl0 (Nat.lt_of_le_of_lt (Nat.sub_le _ _) ha) (md_le a l) hu hr held pc t3 t4
    have hwb : ∀ b, 24 ≤ b → _ := fun b hb => co b (by omega) (by omega)
    have mz0 := t3.2.2.2.2.2.2.2.2.2 0 (by decide)
    obtain ⟨c', m', z1, z2, z3, z4, z5, z6, z7, z8, z9⟩ := tail_up (x := x) (code := code) (u := u) (r := r) C3 hB hw hl hl0 hu hr ((congrFun (hwb w hw.1) 5).trans h5) nk ht (by rw [mz0]; exact m11) (by rw [mz0]; exact m13) (by rw [mz0]; exact m16)
    refine ⟨c', m', z1, z2, z7.trans (congrFun (hwb w hw.1) 8), z8.trans (by rw [mz0]), z3, (put_frU hk6 pc).tr z4, (putM_fr hk6 (Or.inr rfl) t3).tr z5, fun i h1 h2 => (z6 i h1 h2).trans (congrFun (hwb w hw.1) i), z9⟩
  · rw [if_pos hb, if_pos rfl]
    obtain ⟨c', m', z1, z2, z3, z4, z5, z6, z7, z8, z9⟩ := tail_up (x := x) (code := code) (u := u) (r := r) hC (by omega) hw hl hl0 hu hr h5 nk ht m11 m13 m16
    exact ⟨c', m', z1, z2, z7, z8, z3.le (by omega), z4, z5, z6, z9⟩
/-- an entry with no fault, marks already as they will be -/
theorem rd_any {n B cap w a l tg x r mk : Nat} {c m : Mm} {code sb : Int32} (hC : Core n B cap c m) (hB : B + 1 < 2 ^ 30) (hw : 24 ≤ w ∧ w ≤ 32) (ha : a < 512) (hl : l < 3) (htg : tg < 3) (hx : x < 96) (hr : r < 8) (hmk : mk < 4) (h1 : c w 1 = nI a) (h4 : c w 4 = nI tg) (h5 : c w 5 = nI l) (hco : m 1 x = code) (hk0 : ¬ fX9_whatOf code = 0) (hk1 : fX9_whatOf code = 1 → 0 < l) (h2 : m 1 (96 + x) = nI mk) (m11 : m 0 11 = nI l) (m13 : m 0 13 = nI r) (m16 : m 0 16 = 0) (held : ∃ s, s < 6 ∧ m 1 (332 + s) = nI tg) (hsb : (sb = 1 ∧ ¬ nI mk &&& 1 = 0) ∨ (sb = 0 ∧ nI mk &&& 1 = 0)) : ∃ c' m' res, fX8_readEntry_b95 c w 1 (nI x) code (nI r) = some (c', ()) ∧ fX9_reads_b211 m (nI tg) (nI a) (nI x) code (fX9_whatOf code) sb = some (m', res) ∧ c' w 8 = c w 8 ∧ m' 0 14 = m 0 14 ∧ Fin n (B + 1) cap w l c m c' m' res := by
  have vc := (hC.1 x hx).2.2.1
  rw [hco] at vc
  rcases vc.parts with ⟨k0, -⟩ | ⟨k1, ⟨u, hu, et⟩, -⟩ | ⟨k2, ⟨u, hu, et⟩, ro, hro, er⟩
  · exact absurd k0 hk0
  · obtain ⟨c', m', z1, z2, z3⟩ := rd_up hC hB hw ha hl (hk1 k1) htg hx hu hr h1 h4 h5 hco k1 et h2 m11 m13 m16 held hsb
    exact ⟨c', m', 1, z1, by rw [k1]; exact z2, z3⟩
  · obtain ⟨c', m', z1, z2, z3⟩ := rd_pg hC hB hw ha hl htg hx hu hr hro hmk h1 h4 h5 hco k2 et er h2 m11 m13 m16 held hsb
    exact ⟨c', m', 0, z1, by rw [k2]; exact z2, z3⟩
theorem rd_fault {n B cap w l : Nat} {c m m' : Mm} {f : Int32} (hC : Core n B cap c m) (hB : B + 1 < 2 ^ 30) (hw : 24 ≤ w ∧ w ≤ 32) (hm : ∀ b, b ≠ 0 → m' b = m b) (hm0 : ∀ i, i < 11 ∨ 17 ≤ i → m' 0 i = m 0 i) (m16 : m' 0 16 = f) (hf : f = 2 ∨ f = 3 ∨ f = 4) : Fin n (B + 1) cap w l c m (wr (wr (wr c w 8 (c w 8 + 1)) w 0 3) w 9 f) m' 0 := by
  have ob : ∀ b, b ≠ w → wr (wr (wr c w 8 (c w 8 + 1)) w 0 3) w 9 f b = c b := fun b hb => by
    rw [wr_ne _ _ _ hb, wr_ne _ _ _ hb, wr_ne _ _ _ hb]
  refine ⟨?_, fun b _ _ _ _ _ h6 _ => ob b h6, ⟨fun i _ => by rw [hm 1 (by decide)], fun i _ _ => by rw [hm 1 (by decide)], fun b hb => hm b (by omega), hm0⟩, fun i h1 h2 => ?_, Or.inr (Or.inr ⟨rfl, ?_, ?_, ?_⟩)⟩
  · exact (hC.cg (by omega) (hC.1.cg (ob 1 (by omega)) (ob 2 (by omega)) (Ea.of _ _ (hm 1 (by decide)))) (fun b h1 h2 => ob b (by omega)) (fun i _ => by rw [hm 1 (by decide)]) (hm0 6 (by decide)) (hm0 7 (by decide)) (hm0 8 (by decide)) (fun b h1 h2 => hm b (by omega))).le (by omega)
  · simp (disch := omega) only [wr_same, wr_i, wr_b]
  · simp (disch := omega) only [wr_same, wr_i, wr_b]
  · rw [m16]; exact hf
  · rw [m16]; simp (disch := omega) only [wr_same, wr_i, wr_b]
