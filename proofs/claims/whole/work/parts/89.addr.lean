/-! PURE: addresses and entries as numbers -/
theorem wid_eq : ∀ l, l < 3 → fX8_widthOf (nI l) = nI (8 ^ l) ∧ fX9_wide (nI l) = nI (8 ^ l) ∧ 0 < 8 ^ l ∧ 8 ^ l ≤ 64 := by decide +kernel
theorem rest_eq : ∀ l, l < 3 → ∀ a, a < 512 → fX8_restOf (nI a) (nI l) = nI (a % 8 ^ l) := by decide +kernel
theorem first_eq {l a : Nat} (hl : l < 3) (ha : a < 512) : fX8_firstOf (nI a) (nI l) = nI (a - a % 8 ^ l) := by
  unfold fX8_firstOf
  rw [rest_eq l hl a ha, pk_sub (Nat.mod_le _ _)]
theorem digit_eq : ∀ l, l < 3 → ∀ a, a < 512 → fX8_digitOf (nI a) (nI l) = nI (a / 8 ^ l % 8) := by decide +kernel
def cAt (t a l : Nat) : Nat := t * 8 + a / 8 ^ l % 8
theorem cAt_lt {t a l : Nat} (ht : t < 12) : cAt t a l < 96 := by
  have := Nat.mod_lt (a / 8 ^ l) (show 8 > 0 by decide)
  unfold cAt
  omega
theorem cell_at {t a l : Nat} (hl : l < 3) (ha : a < 512) : fX8_cellOf (nI t) (fX8_digitOf (nI a) (nI l)) = nI (cAt t a l) := by
  rw [digit_eq l hl a ha, cell_eq]; rfl
theorem place_at {t a l : Nat} (hl : l < 3) (ha : a < 512) : fX9_place (nI t) (nI a) (nI l) = some (nI (cAt t a l)) := by
  obtain ⟨-, w, p, q⟩ := wid_eq l hl
  have hd : a / 8 ^ l < 2 ^ 31 := Nat.lt_of_le_of_lt (Nat.div_le_self _ _) (by omega)
  unfold fX9_place
  rw [w, nz_nI p (by omega), pk_div (by omega) p (by omega), show (8 : Int32) = nI 8 from rfl, pk_rem hd (by decide) (by decide), nI_mul, nI_add]
  unfold cAt
  rw [Nat.mul_comm]
theorem remw {a l : Nat} (hl : l < 3) (ha : a < 512) : nI a - nI a / fX9_wide (nI l) * fX9_wide (nI l) = nI (a % 8 ^ l) := by
  obtain ⟨-, w, p, q⟩ := wid_eq l hl
  rw [w, pk_rem (by omega) p (by omega)]
theorem nz_wide {α : Type} {l : Nat} {k : Option α} (hl : l < 3) : nz (fX9_wide (nI l)) k = k := by
  obtain ⟨-, w, p, q⟩ := wid_eq l hl
  rw [w, nz_nI p (by omega)]
theorem code_parts {k r t : Nat} (hk : k < 4) (hr : r < 16) (ht : t < 1000) : fX9_whatOf (nI (k + 4 * r + 64 * t)) = nI k ∧ fX9_rightsOf (nI (k + 4 * r + 64 * t)) = nI r ∧ fX9_targetOf (nI (k + 4 * r + 64 * t)) = nI t := by
  unfold fX9_whatOf fX9_rightsOf fX9_targetOf
  rw [pk_andN (by omega) (m := 3) 2 (by decide), pk_shrN (by omega) _ 2 (by decide), pk_shrN (by omega) _ 6 (by decide), pk_andN (by omega) (m := 15) 4 (by decide)]
  refine ⟨?_, ?_, ?_⟩
  · congr 1; omega
  · congr 1; omega
  · congr 1; omega
theorem Vc.parts {x : Int32} (h : Vc x) : (fX9_whatOf x = 0 ∧ fX9_targetOf x = nI 0 ∧ fX9_rightsOf x = nI 0) ∨ (fX9_whatOf x = 1 ∧ (∃ t, t < 12 ∧ fX9_targetOf x = nI t) ∧ ∃ r, r < 16 ∧ fX9_rightsOf x = nI r) ∨ (fX9_whatOf x = 2 ∧ (∃ t, t < 1000 ∧ fX9_targetOf x = nI t) ∧ ∃ r, r < 16 ∧ fX9_rightsOf x = nI r) := by
  obtain ⟨k, r, t, rfl, h⟩ := h
  rcases h with ⟨rfl, rfl, rfl⟩ | ⟨rfl, h1, h2⟩ | ⟨rfl, h1, h2⟩
  · obtain ⟨e1, e2, e3⟩ := code_parts (k := 0) (r := 0) (t := 0) (by omega) (by omega) (by omega)
    exact Or.inl ⟨e1, e3, e2⟩
  · obtain ⟨e1, e2, e3⟩ := code_parts (k := 1) (r := r) (t := t) (by omega) (by omega) (by omega)
    exact Or.inr (Or.inl ⟨e1, ⟨t, h2, e3⟩, ⟨r, h1, e2⟩⟩)
  · obtain ⟨e1, e2, e3⟩ := code_parts (k := 2) (r := r) (t := t) (by omega) (by omega) (by omega)
    exact Or.inr (Or.inr ⟨e1, ⟨t, h2, e3⟩, ⟨r, h1, e2⟩⟩)
/-- the fill of three cells -/
theorem fill3 (c : Mm) (b : Nat) (v : Int32) : ∃ c', fJ7_fill_53178 c 3 b v = some (c', ()) ∧ (∀ z, z ≠ b → c' z = c z) ∧ ∀ j, j < 3 → c' b j = v := by
  refine ⟨_, fill_sp (by decide), fun z hz => ?_, fun j hj => ?_⟩
  · funext i
    simp [flm, hz]
  · simp [flm, hj]
