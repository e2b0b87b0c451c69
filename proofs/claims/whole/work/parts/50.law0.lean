/-! THE LAW: two worlds and an array beside each other -/
def LX (ad1 ad2 : Nat → Nat) (q3 : Nat) (s : State) : Prop := (Dj ad1 46 ∧ Dj ad2 13) ∧ (∀ b, b < 46 → s.heap.size ≤ ad1 b) ∧ (∀ b, b < 13 → s.heap.size ≤ ad2 b) ∧ s.heap.size ≤ q3 ∧ (∀ b b', b < 46 → b' < 13 → ad1 b ≠ ad2 b') ∧ (∀ b, b < 46 → ad1 b ≠ q3) ∧ (∀ b, b < 13 → ad2 b ≠ q3)
def LW (D : va_G) (ca : Nat → ClassId) (ad1 : Nat → Nat) (cap : Nat) (cm : Mm) (ad2 : Nat → Nat) (mm : Mm) (q3 : Nat) (f : Nat → Int64) (cL : ClassId) (s : State) (H : Heap) (locs : List Loc) : Prop :=
  va_P D vwCl (wd ca ad1 cm (layC cap)) H ∧ va_P D vwCl (wd ca ad2 mm layM) H ∧ va_P D vwCl [(q3, .inl (cL, 1, .inr (.inl f)))] H ∧ va_S (fun q => s.heap.size ≤ q) s.heap H locs ∧ LX ad1 ad2 q3 s ∧ Kx D ca s
section LWR
variable {p : Program} {l : Launch} {e : Env} {R : Room} {s : State} {m : MethodId} {args : Array Value} {below : List Frame} {meth : Method} {c : Code} {H : Heap} {locs : List Loc} {cells slots : Nat} {Q : State → Prop}
variable {cc : ByteArray} {pc nL : Nat} {ls : Array Slot} {rest : List Value} {D : va_G}
variable {ca : Nat → ClassId} {ad1 ad2 : Nat → Nat} {cap q3 : Nat} {cm mm : Mm} {fo : Nat → Int64} {cL : ClassId}
variable {y : MethodName} {bytes : ByteArray} {maxL index n f k : Nat} {ret : Option FieldType} {As st : List Value} {cm' mm' : Mm} {r : Int32}
theorem L_keepM (w : LW D ca ad1 cap cm ad2 mm q3 fo cL s H locs) {H1 : Heap} {A : Nat → Prop} (hA : ∀ q, q < H.size → A q → (∃ b, b < 46 ∧ q = ad1 b)) (hk : ∀ q : Nat, q < H.size → ¬ A q → H1[q]? = H[q]?) : va_P D vwCl (wd ca ad2 mm layM) H1 ∧ va_P D vwCl [(q3, .inl (cL, 1, .inr (.inl fo)))] H1 := by
  obtain ⟨-, h2, h3, -, ⟨-, -, -, -, d1, d2, -⟩, -⟩ := w
  refine ⟨h2.kept (fun j q hj => ?_), h3.kept (fun j q hj => ?_)⟩
  · obtain ⟨g1, g2⟩ := wd_at hj
    rw [lyM_len] at g1
    refine hk q.1 (h2 j q hj).lt (fun z => ?_)
    obtain ⟨b, hb, e⟩ := hA _ (h2 j q hj).lt z
    exact d1 b j hb g1 (by rw [← e, g2])
  · have g1 := (List.getElem?_eq_some_iff.mp hj).1
    simp only [List.length_cons, List.length_nil] at g1
    refine hk q.1 (h3 j q hj).lt (fun z => ?_)
    obtain ⟨b, hb, e⟩ := hA _ (h3 j q hj).lt z
    rw [show j = 0 by omega] at hj
    cases hj
    exact d2 b hb e.symm
theorem L_keepC (w : LW D ca ad1 cap cm ad2 mm q3 fo cL s H locs) {H1 : Heap} (hk : ∀ q : Nat, q < H.size → ¬ AA ad2 layM.length q → H1[q]? = H[q]?) : va_P D vwCl (wd ca ad1 cm (layC cap)) H1 ∧ va_P D vwCl [(q3, .inl (cL, 1, .inr (.inl fo)))] H1 := by
  obtain ⟨h2, -, h3, -, ⟨-, -, -, -, d1, -, d2⟩, -⟩ := w
  refine ⟨h2.kept (fun j q hj => ?_), h3.kept (fun j q hj => ?_)⟩
  · obtain ⟨g1, g2⟩ := wd_at hj
    rw [lyC_len] at g1
    refine hk q.1 (h2 j q hj).lt (fun z => ?_)
    obtain ⟨b, hb, e⟩ := z
    rw [lyM_len] at hb
    exact d1 j b g1 hb (by rw [← e, g2])
  · have g1 := (List.getElem?_eq_some_iff.mp hj).1
    simp only [List.length_cons, List.length_nil] at g1
    refine hk q.1 (h3 j q hj).lt (fun z => ?_)
    obtain ⟨b, hb, e⟩ := z
    rw [lyM_len] at hb
    rw [show j = 0 by omega] at hj
    cases hj
    exact d2 b hb e.symm
theorem L_wdC (w : LW D ca ad1 cap cm ad2 mm q3 fo cL s H locs) : Wd D ca ad1 (layC cap) (fun q => s.heap.size ≤ q) s.heap s cm H locs := by
  refine ⟨w.1, w.2.2.2.1, ⟨by rw [lyC_len]; exact w.2.2.2.2.1.1.1, fun q h => ?_⟩, w.2.2.2.2.2⟩
  obtain ⟨b, hb, rfl⟩ := h
  rw [lyC_len] at hb
  exact w.2.2.2.2.1.2.1 b hb
theorem L_wdM (w : LW D ca ad1 cap cm ad2 mm q3 fo cL s H locs) : Wd D ca ad2 layM (fun q => s.heap.size ≤ q) s.heap s mm H locs := by
  refine ⟨w.2.1, w.2.2.2.1, ⟨by rw [lyM_len]; exact w.2.2.2.2.1.1.2, fun q h => ?_⟩, w.2.2.2.2.2⟩
  obtain ⟨b, hb, rfl⟩ := h
  rw [lyM_len] at hb
  exact w.2.2.2.2.1.2.2.1 b hb
/-- a call of the class -/
theorem L_C (X : CallFix p m c cc nL s args TT RL) (w : LW D ca ad1 cap cm ad2 mm q3 fo cL s H locs) (hM : CtI l y bytes maxL ret (rmx f k) D ca ad1 (layC cap) cm (.ref (ad1 0) :: As) cm' r) (hG : GoodIn TT (wsV RL index RX8 y (wsT y bytes maxL ret))) (hd : y.cls = RX8 ∧ y.cls ≠ "java/lang/invoke/MethodHandle" ∧ y.cls ≠ "java/lang/invoke/VarHandle" ∧ (parseMethodDescriptor y.desc).map (fun d => d.parameters.length) = some n) (hR : f + 1 ≤ R.frames ∧ 8 + (maxL + 11) + k ≤ R.locals) (hn : As.length = n) (hsz : ls.size = nL) (hst : st = As.reverse ++ .ref (ad1 0) :: rest) (hroom : (rest.map fun v => v.category).sum ≤ 8) (hdg : decode cc pc = .ok (.invokevirtual index, 3)) (hf : cells + 0 ≤ R.cells ∧ slots + 0 ≤ R.slots)
    (kk : ∀ (H1 : Heap) (locs1 : List Loc), LW D ca ad1 cap cm' ad2 mm q3 fo cL s H1 locs1 → W p l e R s m args below meth c H1 locs1 cells slots Q (F0 m (pc + 3) ls (.int r :: rest))) : W p l e R s m args below meth c H locs cells slots Q (F0 m pc ls st) := by
  subst hst
  have wc := L_wdC w
  refine va_calli (va_runV (As := As) (rest := rest) X hM (cwV n X.2.2.2.2 hG rfl rfl rfl hd hR) (r_recv wc lyC_0 rfl As) rfl hn hsz rfl (lv_room hroom) hdg hf) wc.2.1 (fun q _ h => wc.2.2.1.2 q h) (fun q h => wc.2.2.1.2 q h) (fun r u t H1 locs1 ht _ hw hB _ hk hS => ?_)
  subst hw
  obtain ⟨k1, k2⟩ := L_keepM w (A := AA ad1 (layC cap).length) (fun q _ h => by obtain ⟨b, hb, e⟩ := h; rw [lyC_len] at hb; exact ⟨b, hb, e⟩) hk
  exact kk H1 locs1 ⟨by rw [← ht]; exact hB, k1, k2, hS, w.2.2.2.2.1, w.2.2.2.2.2⟩
/-- a call of the reference -/
theorem L_M (X : CallFix p m c cc nL s args TT RL) (w : LW D ca ad1 cap cm ad2 mm q3 fo cL s H locs) (hM : CtI l y bytes maxL ret (rmx f k) D ca ad2 layM mm (.ref (ad2 0) :: As) mm' r) (hG : GoodIn TT (wsV RL index RX9 y (wsT y bytes maxL ret))) (hd : y.cls = RX9 ∧ y.cls ≠ "java/lang/invoke/MethodHandle" ∧ y.cls ≠ "java/lang/invoke/VarHandle" ∧ (parseMethodDescriptor y.desc).map (fun d => d.parameters.length) = some n) (hR : f + 1 ≤ R.frames ∧ 8 + (maxL + 11) + k ≤ R.locals) (hn : As.length = n) (hsz : ls.size = nL) (hst : st = As.reverse ++ .ref (ad2 0) :: rest) (hroom : (rest.map fun v => v.category).sum ≤ 8) (hdg : decode cc pc = .ok (.invokevirtual index, 3)) (hf : cells + 0 ≤ R.cells ∧ slots + 0 ≤ R.slots)
    (kk : ∀ (H1 : Heap) (locs1 : List Loc), LW D ca ad1 cap cm ad2 mm' q3 fo cL s H1 locs1 → W p l e R s m args below meth c H1 locs1 cells slots Q (F0 m (pc + 3) ls (.int r :: rest))) : W p l e R s m args below meth c H locs cells slots Q (F0 m pc ls st) := by
  subst hst
  have wc := L_wdM w
  refine va_calli (va_runV (As := As) (rest := rest) X hM (cwV n X.2.2.2.2 hG rfl rfl rfl hd hR) (r_recv wc lyM_0 rfl As) rfl hn hsz rfl (lv_room hroom) hdg hf) wc.2.1 (fun q _ h => wc.2.2.1.2 q h) (fun q h => wc.2.2.1.2 q h) (fun r u t H1 locs1 ht _ hw hB _ hk hS => ?_)
  subst hw
  obtain ⟨k1, k2⟩ := L_keepC w hk
  exact kk H1 locs1 ⟨k1, by rw [← ht]; exact hB, k2, hS, w.2.2.2.2.1, w.2.2.2.2.2⟩
/-- fence of the class: it may make two arrays -/
theorem L_F (X : CallFix p m c cc nL s args TT RL) (w : LW D ca ad1 cap cm ad2 mm q3 fo cL s H locs) {a1 a2 : Int32} {cap' : Nat} (hf0 : fX8_fence cap cm a1 a2 = some (cap', cm', r)) (hG : GoodIn TT (wsV RL index RX8 yX8_fence (wsT yX8_fence cX8_fence 5 (some .int)))) (hR : 5 + 1 ≤ R.frames ∧ 8 + (5 + 11) + 108 ≤ R.locals) (hsz : ls.size = nL) (hroom : (rest.map fun v => v.category).sum ≤ 8) (hdg : decode cc pc = .ok (.invokevirtual index, 3)) (hf : cells + 2 ≤ R.cells ∧ slots + 1024 ≤ R.slots)
    (kk : ∀ (u : Nat → Nat) (H1 : Heap) (locs1 : List Loc), u 0 = ad1 0 → LW D ca u cap' cm' ad2 mm q3 fo cL s H1 locs1 → W p l e R s m args below meth c H1 locs1 (cells + 2) (slots + 1024) Q (F0 m (pc + 3) ls (.int r :: rest))) : W p l e R s m args below meth c H locs cells slots Q (F0 m pc ls (.int a2 :: .int a1 :: .ref (ad1 0) :: rest)) := by
  have wc := L_wdC w
  have hle : s.heap.size ≤ H.size := wc.2.1.1
  have hAF : ∀ q, AF ad1 H.size q → s.heap.size ≤ q := fun q h => by
    rcases h with h | h
    · exact wc.2.2.1.2 q (by rw [lyC_len]; exact h)
    · exact Nat.le_trans hle h
  refine va_calli (va_runV (As := [.int a1, .int a2]) (rest := rest) X (kX8_fence l D ca ad1 H.size cm a1 a2 hf0) (cwV 2 X.2.2.2.2 hG rfl rfl rfl hdX8_fence hR) ⟨fun a U g mk q => ?_, va_recv w.2.2.2.2.2.1 w.1 (q := (RX8, TX8, 16)) rfl (wd_get lyC_0), fun U hU hW => ⟨rfl, by rw [hU], by rw [hU]; exact w.1, Kx.warm hW w.2.2.2.2.2, w.2.2.2.2.1.1.1⟩⟩ rfl rfl hsz rfl (lv_room hroom) hdg hf) wc.2.1 (fun q _ h => hAF q h) hAF (fun r u t H1 locs1 ht _ hw hB _ hk hS => ?_)
  · obtain ⟨q0, q1, q2, q3, q4⟩ := q
    exact ⟨q0, q1, q2, Kx.same (s := U) rfl q3, q4⟩
  · obtain ⟨rfl, hag⟩ := hw
    subst ht
    obtain ⟨k1, k2⟩ := L_keepM w (A := AF ad1 H.size) (fun q hq h => by
      rcases h with h | h
      · exact h
      · omega) hk
    obtain ⟨-, h2, h3, -, ⟨⟨-, b2⟩, -, b4, b5, b6, b7, b8⟩, b9⟩ := w
    refine kk u t.heap locs1 (hag.1 0 (by decide) (by decide)) ⟨hB.1, k1, k2, hS, ⟨⟨hB.2, b2⟩, fun b hb => hAF _ (hag.2 b hb), b4, b5, fun b b' hb hb' e => ?_, fun b hb e => ?_, b8⟩, b9⟩
    · rcases hag.2 b hb with ⟨z, hz, ez⟩ | hz
      · exact b6 z b' hz hb' (by rw [← ez, e])
      · have := (h2 b' _ (wd_get (List.getElem?_eq_getElem (by rw [lyM_len]; exact hb')))).lt
        rw [e] at hz
        exact absurd hz (by omega)
    · rcases hag.2 b hb with ⟨z, hz, ez⟩ | hz
      · exact b7 z hz (by rw [← ez, e])
      · have h9 := (h3 0 _ rfl).lt
        simp only at h9
        rw [e] at hz
        omega
end LWR
