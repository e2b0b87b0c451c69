theorem nI_dbl (a : Nat) : nI a * 2 = nI (2 * a) := by
  rw [Nat.mul_comm]
  exact (Int32.ofNat_mul a 2).symm
/-- the references of a block lie outside the two arrays -/
def rfOK (k : Nat) : Kd → Bool
  | .inl _ => true
  | .inr (.inl (_, n, base, st)) => (List.range n).all (fun i => decide (k + base + st * i ≠ 42) && decide (k + base + st * i ≠ 43))
  | .inr (.inr (_, fl)) => fl.all (fun o => match o with
    | none => true
    | some r => decide (k + r ≠ 42) && decide (k + r ≠ 43))
theorem at_same {D : va_G} {ca : Nat → ClassId} {ad u : Nat → Nat} {mem mem' : Mm} {k a : Nat} {kd : Kd} {H : Heap} (hr : rfOK k kd = true) (hu : ∀ b, b ≠ 42 → b ≠ 43 → u b = ad b) (hm : mem' k = mem k) (h : va_at D vwCl (a, ce ca ad mem k kd) H) : va_at D vwCl (a, ce ca u mem' k kd) H := by
  match kd, hr, h with
  | .inl (t, n), _, h =>
    simp only [ce, hm] at h ⊢
    exact h
  | .inr (.inl (t, n, base, st)), hr, h =>
    have h0 : H[a]? = some (vp_cell (ca t) (n, .inr (.inr (.inr (.inr (fun i => some (ad (k + base + st * i)))))))) := h
    show H[a]? = some (vp_cell (ca t) (n, .inr (.inr (.inr (.inr (fun i => some (u (k + base + st * i))))))))
    rw [h0, vp_cell_q, vp_cell_q]
    unfold arrV
    congr 3
    funext j
    have hj := List.all_eq_true.mp hr j.val (List.mem_range.mpr j.isLt)
    simp only [Bool.and_eq_true, decide_eq_true_eq] at hj
    show va_rf (some (ad (k + base + st * j.val))) = va_rf (some (u (k + base + st * j.val)))
    rw [hu _ hj.1 hj.2]
  | .inr (.inr (ci, fl)), hr, h =>
    have e : fl.mapIdx (fun i o => fv u k (mem' k i) o) = fl.mapIdx (fun i o => fv ad k (mem k i) o) := by
      apply List.ext_getElem?
      intro j
      rw [List.getElem?_mapIdx, List.getElem?_mapIdx]
      cases hj : fl[j]? with
      | none => rfl
      | some o =>
        cases o with
        | none => simp only [Option.map_some, fv, hm]
        | some r =>
          have h2 := List.all_eq_true.mp hr (some r) (List.mem_of_getElem? hj)
          simp only [Bool.and_eq_true, decide_eq_true_eq] at h2
          simp only [Option.map_some, fv, hu _ h2.1 h2.2]
    simp only [ce, e] at h ⊢
    exact h
theorem lay_ok {cap k : Nat} (hk : k < 46) (h0 : k ≠ 40) (h1 : k ≠ 42) (h2 : k ≠ 43) : ∃ kd, (layC cap)[k]? = some kd ∧ (layC (2 * cap))[k]? = some kd ∧ rfOK k kd = true := by
  rcases (show k = 0 ∨ k = 1 ∨ k = 2 ∨ k = 3 ∨ k = 4 ∨ k = 5 ∨ k = 6 ∨ k = 7 ∨ k = 8 ∨ k = 9 ∨ k = 10 ∨ k = 11 ∨ k = 12 ∨ k = 13 ∨ k = 14 ∨ k = 15 ∨ k = 16 ∨ k = 17 ∨ k = 18 ∨ k = 19 ∨ k = 20 ∨ k = 21 ∨ k = 22 ∨ k = 23 ∨ k = 24 ∨ k = 25 ∨ k = 26 ∨ k = 27 ∨ k = 28 ∨ k = 29 ∨ k = 30 ∨ k = 31 ∨ k = 32 ∨ k = 33 ∨ k = 34 ∨ k = 35 ∨ k = 36 ∨ k = 37 ∨ k = 38 ∨ k = 39 ∨ k = 41 ∨ k = 44 ∨ k = 45 by omega) with rfl | rfl | rfl | rfl | rfl | rfl | rfl | rfl | rfl | rfl | rfl | rfl | rfl | rfl | rfl | rfl | rfl | rfl | rfl | rfl | rfl | rfl | rfl | rfl | rfl | rfl | rfl | rfl | rfl | rfl | rfl | rfl | rfl | rfl | rfl | rfl | rfl | rfl | rfl | rfl | rfl | rfl | rfl <;> exact ⟨_, rfl, rfl, rfl⟩
theorem grow_wd {D : va_G} {ca : Nat → ClassId} {ad : Nat → Nat} {mem : Mm} {cap q1 q2 : Nat} {ws : va_W} {H : Heap} (hP : va_P D vwCl ws H) (h40 : ws[40]? = some (ad 40, .inr (1, [.ref (ad 41), .int (mem 40 1), .ref q1, .ref q2, .int (mem 40 4)]))) (h46 : ws[46]? = some (q1, .inl (ca 0, 2 * cap, .inl (va_cpy (mem 42) (fun _ => 0) 0 0 cap)))) (h47 : ws[47]? = some (q2, .inl (ca 0, 2 * cap, .inl (va_cpy (mem 43) (fun _ => 0) 0 0 cap)))) (hk : ∀ k, k < 46 → k ≠ 40 → ws[k]? = (wd ca ad mem (layC cap))[k]?) : va_P D vwCl (wd ca (va_up (va_up ad 42 q1) 43 q2) (grm cap mem) (layC (2 * cap))) H := by
  have hu : ∀ b, b ≠ 42 → b ≠ 43 → va_up (va_up ad 42 q1) 43 q2 b = ad b := fun b h1 h2 => by simp [va_up, h1, h2]
  intro k q hq
  obtain ⟨hlt, -⟩ := wd_at hq
  rw [lyC_len] at hlt
  by_cases k40 : k = 40
  · subst k40
    rw [wd_get lyC_40] at hq
    cases hq
    have e : ce ca (va_up (va_up ad 42 q1) 43 q2) (grm cap mem) 40 (.inr (.inr (1, [some 1, none, some 2, some 3, none]))) = .inr (1, [.ref (ad 41), .int (mem 40 1), .ref q1, .ref q2, .int (mem 40 4)]) := by
      simp [ce, fv, List.mapIdx_cons, va_up, grm]
    rw [e, hu 40 (by decide) (by decide)]
    exact hP 40 _ h40
  · by_cases k42 : k = 42
    · subst k42
      rw [wd_get lyC_42] at hq
      cases hq
      have e : ce ca (va_up (va_up ad 42 q1) 43 q2) (grm cap mem) 42 (.inl (0, 2 * cap)) = .inl (ca 0, 2 * cap, .inl (va_cpy (mem 42) (fun _ => 0) 0 0 cap)) := by
        simp only [ce, grm_in (Or.inl rfl)]
      have e2 : va_up (va_up ad 42 q1) 43 q2 42 = q1 := by simp [va_up]
      rw [e, e2]
      exact hP 46 _ h46
    · by_cases k43 : k = 43
      · subst k43
        rw [wd_get lyC_43] at hq
        cases hq
        have e : ce ca (va_up (va_up ad 42 q1) 43 q2) (grm cap mem) 43 (.inl (0, 2 * cap)) = .inl (ca 0, 2 * cap, .inl (va_cpy (mem 43) (fun _ => 0) 0 0 cap)) := by
          simp only [ce, grm_in (Or.inr rfl)]
        have e2 : va_up (va_up ad 42 q1) 43 q2 43 = q2 := by simp [va_up]
        rw [e, e2]
        exact hP 47 _ h47
      · obtain ⟨kd, l1, l2, l3⟩ := lay_ok (cap := cap) hlt k40 k42 k43
        rw [wd_get l2] at hq
        cases hq
        rw [hu k k42 k43]
        exact at_same l3 hu (grm_ne k42 k43) (hP k _ ((hk k hlt k40).trans (wd_get l1)))
