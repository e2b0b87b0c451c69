/-! java/util/Arrays.fill([II)V (W) -/
theorem hdJ7_fill_53178 : yJ7_fill_53178.cls ≠ "java/lang/invoke/MethodHandle" ∧ yJ7_fill_53178.cls ≠ "java/lang/invoke/VarHandle" ∧ (parseMethodDescriptor yJ7_fill_53178.desc).map (fun d => d.parameters.length) = some 2 := by decide +kernel
def fJ7_fill_53178_b5_s (n0 : Nat)  (k5 : Mm → Nat → Int32 → Int32 → Int32 → Option (Mm × Unit)) (mem : Mm) (x0 : Nat) (x1 : Int32) (x2 : Int32) (x3 : Int32) : Option (Mm × Unit) :=
  if x3 ≤ x2 then some (mem, ()) else gd x2 n0 (wk mem x0 x2.toNatClampNeg x1 (fun m3 => k5 m3 x0 x1 (x2 + (1 : Int32)) x3))
def fJ7_fill_53178_b5 (n0 : Nat)  : Nat → Mm → Nat → Int32 → Int32 → Int32 → Option (Mm × Unit)
  | 0 => fun _ _ _ _ _ => none
  | n + 1 => fJ7_fill_53178_b5_s n0  (fJ7_fill_53178_b5 n0  n)
set_option maxRecDepth 100000 in
set_option maxHeartbeats 4000000 in
theorem wJ7_fill_53178_b5_s {p : Program} {l : Launch} {e : Env} {s : State} {m : MethodId} {args : Array Value} {below : List Frame} {meth : Method} {c : Code} {D : va_G} {ca : Nat → ClassId} {ad : Nat → Nat} {lay : List Kd} {n0 : Nat} {H : Heap} {locs : List Loc} {ls : Array Slot} {mem : Mm} {x0 : Nat} {x1 : Int32} {x2 : Int32} {x3 : Int32}  {k5 : Mm → Nat → Int32 → Int32 → Int32 → Option (Mm × Unit)} {mem' : Mm} {r : Unit} (X : CallFix p m c cJ7_fill_53178 4 s args TT RJ7) (M : Mt meth none)  (hk5 : ∀ (mem : Mm) (x0 : Nat) (x1 : Int32) (x2 : Int32) (x3 : Int32) (H : Heap) (locs : List Loc) (ls : Array Slot) (hx0 : lay[x0]? = some (.inl (0, n0))), Wd D ca ad lay (AA ad lay.length) s.heap s mem H locs → lv_has ls 4 [(0, .ref (ad x0)), (1, .int x1), (2, .int x2), (3, .int x3)] → k5 mem x0 x1 x2 x3 = some (mem', r) → W p l e (rmx 0 0) s m args below meth c H locs 0 0 (EndV D ca ad lay mem' below args s) (F0 m 5 ls [])) (hx0 : lay[x0]? = some (.inl (0, n0))) (w : Wd D ca ad lay (AA ad lay.length) s.heap s mem H locs) (hl : lv_has ls 4 [(0, .ref (ad x0)), (1, .int x1), (2, .int x2), (3, .int x3)]) (h : fJ7_fill_53178_b5_s n0  k5 mem x0 x1 x2 x3 = some (mem', r)) : W p l e (rmx 0 0) s m args below meth c H locs 0 0 (EndV D ca ad lay mem' below args s) (F0 m 5 ls []) := by
  unfold fJ7_fill_53178_b5_s at h
  refine lv_iload_n X.1 X.2.1 dJ7_fill_53178_5 rfl (lv_at hl 2 rfl) ?_
  refine lv_iload_n X.1 X.2.1 dJ7_fill_53178_6 rfl (lv_at hl 3 rfl) ?_
  refine lv_icmp_ge (tgt := 20) X.1 X.2.1 dJ7_fill_53178_7 (by decide) (fun c1 => ?_) (fun c1 => ?_)
  · rw [if_pos c1] at h
    obtain ⟨rfl, -⟩ := Prod.mk.inj (Option.some.inj h)
    exact r_vret X M w dJ7_fill_53178_20
  · rw [if_neg c1] at h
    refine lv_aload_n X.1 X.2.1 dJ7_fill_53178_10 rfl (lv_at hl 0 rfl) ?_
    refine lv_iload_n X.1 X.2.1 dJ7_fill_53178_11 rfl (lv_at hl 2 rfl) ?_
    refine lv_iload_n X.1 X.2.1 dJ7_fill_53178_12 rfl (lv_at hl 1 rfl) ?_
    obtain ⟨hi2, h⟩ := gd_some h
    refine r_iast X w hx0 hi2 dJ7_fill_53178_13 (fun H locs w => ?_)
    obtain ⟨m3, em3, h⟩ := wk_some h
    rw [em3] at w
    refine lv_iinc (v := (x2 + (1 : Int32))) (lv' := [(2, .int (x2 + (1 : Int32))), (0, .ref (ad x0)), (1, .int x1), (3, .int x3)]) X.1 X.2.1 dJ7_fill_53178_14 hl (k := 2) rfl rfl (by decide) rfl (fun ls hl => ?_)
    refine lv_goto (tgt := 5) X.1 X.2.1 dJ7_fill_53178_17 (by decide) ?_
    exact hk5 _ _ _ _ _ H locs ls hx0 w (lv_sub hl [1, 2, 0, 3] rfl) h
set_option maxRecDepth 100000 in
set_option maxHeartbeats 4000000 in
theorem wJ7_fill_53178_b5 {p : Program} {l : Launch} {e : Env} {s : State} {m : MethodId} {args : Array Value} {below : List Frame} {meth : Method} {c : Code} {D : va_G} {ca : Nat → ClassId} {ad : Nat → Nat} {lay : List Kd} {n0 : Nat}  {mem' : Mm} {r : Unit} (X : CallFix p m c cJ7_fill_53178 4 s args TT RJ7) (M : Mt meth none)  : ∀ (n : Nat) (mem : Mm) (x0 : Nat) (x1 : Int32) (x2 : Int32) (x3 : Int32) (H : Heap) (locs : List Loc) (ls : Array Slot) (hx0 : lay[x0]? = some (.inl (0, n0))) (_ : Wd D ca ad lay (AA ad lay.length) s.heap s mem H locs) (_ : lv_has ls 4 [(0, .ref (ad x0)), (1, .int x1), (2, .int x2), (3, .int x3)]) (_ : fJ7_fill_53178_b5 n0  n mem x0 x1 x2 x3 = some (mem', r)), W p l e (rmx 0 0) s m args below meth c H locs 0 0 (EndV D ca ad lay mem' below args s) (F0 m 5 ls []) := by
  intro n
  induction n with
  | zero => intro mem x0 x1 x2 x3 H locs ls hx0 w hl h; exact (nofun : (none : Option (Mm × Unit)) = _ → _) h
  | succ n ih => intro mem x0 x1 x2 x3 H locs ls hx0 w hl h; exact wJ7_fill_53178_b5_s X M  ih hx0 w hl h
def fJ7_fill_53178 (mem : Mm) (n0 : Nat) (a0 : Nat) (a1 : Int32) : Option (Mm × Unit) :=
  lk (Int32.ofNat n0) (fun x_1 => fJ7_fill_53178_b5 n0 2000 mem a0 a1 (0 : Int32) x_1)
set_option maxRecDepth 100000 in
set_option maxHeartbeats 4000000 in
theorem kJ7_fill_53178 {lay : List Kd} (l : Launch) (D : va_G) (ca : Nat → ClassId) (ad : Nat → Nat) (mem : Mm) (n0 : Nat) (a0 : Nat) (a1 : Int32) (h0 : lay[a0]? = some (.inl (0, n0))) {mem' : Mm} {r : Unit} (h : fJ7_fill_53178 mem n0 a0 a1 = some (mem', r)) : CtV l yJ7_fill_53178 cJ7_fill_53178 4 none (rmx 0 0) D ca ad lay mem [.ref (ad a0), .int a1] mem' := by
  refine CtV.of (by decide) (Nat.le_of_ble_eq_true rfl) ?_
  intro p e s m args below meth c H locs ls X M w hl
  replace X : CallFix p m c cJ7_fill_53178 4 s args TT RJ7 := X
  replace hl : lv_has ls 4 [(0, .ref (ad a0)), (1, .int a1)] := hl
  unfold fJ7_fill_53178 at h
  refine lv_iconst (v := (0 : Int32)) X.1 X.2.1 dJ7_fill_53178_0 (by decide) ?_
  refine lv_istore_n (lv' := [(2, .int (0 : Int32)), (0, .ref (ad a0)), (1, .int a1)]) X.1 X.2.1 dJ7_fill_53178_1 rfl hl (by decide) rfl (fun ls hl => ?_)
  refine lv_aload_n X.1 X.2.1 dJ7_fill_53178_2 rfl (lv_at hl 1 rfl) ?_
  refine r_alen (v := (Int32.ofNat n0)) X w h0 rfl dJ7_fill_53178_3 ?_
  obtain ⟨x_1, ex_1, h⟩ := lk_some h
  refine lv_name ex_1 ?_
  refine lv_istore_n (lv' := [(3, .int x_1), (2, .int (0 : Int32)), (0, .ref (ad a0)), (1, .int a1)]) X.1 X.2.1 dJ7_fill_53178_4 rfl hl (by decide) rfl (fun ls hl => ?_)
  exact wJ7_fill_53178_b5 X M _ _ _ _ _ _ H locs ls h0 w (lv_sub hl [2, 3, 1, 0] rfl) h
/-! WalkHouse$Changes.note(II)V (W) -/
theorem hdX0_note : yX0_note.cls = RX0 ∧ yX0_note.cls ≠ "java/lang/invoke/MethodHandle" ∧ yX0_note.cls ≠ "java/lang/invoke/VarHandle" ∧ (parseMethodDescriptor yX0_note.desc).map (fun d => d.parameters.length) = some 2 := by decide +kernel
def fX0_note (mem : Mm) (a1 : Int32) (a2 : Int32) : Option (Mm × Unit) :=
  gd ((mem 37 2) - (mem 37 2) / (40 : Int32) * (40 : Int32)) 40 (wk mem 38 ((mem 37 2) - (mem 37 2) / (40 : Int32) * (40 : Int32)).toNatClampNeg a1 (fun m2 => gd ((m2 37 2) - (m2 37 2) / (40 : Int32) * (40 : Int32)) 40 (wk m2 39 ((m2 37 2) - (m2 37 2) / (40 : Int32) * (40 : Int32)).toNatClampNeg a2 (fun m4 => wk m4 37 2 ((m4 37 2) + (1 : Int32)) (fun m5 => some (m5, ()))))))
set_option maxRecDepth 100000 in
set_option maxHeartbeats 4000000 in
theorem kX0_note {cap : Nat} (l : Launch) (D : va_G) (ca : Nat → ClassId) (ad : Nat → Nat) (mem : Mm) (a1 : Int32) (a2 : Int32)  {mem' : Mm} {r : Unit} (h : fX0_note mem a1 a2 = some (mem', r)) : CtV l yX0_note cX0_note 3 none (rmx 0 0) D ca ad (layC cap) mem [.ref (ad 37), .int a1, .int a2] mem' := by
  refine CtV.of (by decide) (Nat.le_of_ble_eq_true rfl) ?_
  intro p e s m args below meth c H locs ls X M w hl
  replace X : CallFix p m c cX0_note 3 s args TT RX0 := X
  replace hl : lv_has ls 3 [(0, .ref (ad 37)), (1, .int a1), (2, .int a2)] := hl
  unfold fX0_note at h
  refine lv_aload_n X.1 X.2.1 dX0_note_0 rfl (lv_at hl 0 rfl) ?_
  refine r_getr (b2 := 38) X w lyC_37 rfl inT0 0 rfl rfl (by decide) rfl tw_267 dX0_note_1 ?_
  refine lv_aload_n X.1 X.2.1 dX0_note_4 rfl (lv_at hl 0 rfl) ?_
  refine r_get X w lyC_37 rfl inT0 2 rfl (by decide) rfl tw_269 dX0_note_5 ?_
  refine lv_bipush (v := (40 : Int32)) X.1 X.2.1 dX0_note_8 (by decide) ?_
  refine lv_irem X.1 X.2.1 dX0_note_10 (by decide) ?_
  refine lv_iload_n X.1 X.2.1 dX0_note_11 rfl (lv_at hl 1 rfl) ?_
  obtain ⟨hi1, h⟩ := gd_some h
  refine r_iast X w lyC_38 hi1 dX0_note_12 (fun H locs w => ?_)
  obtain ⟨m2, em2, h⟩ := wk_some h
  rw [em2] at w
  refine lv_aload_n X.1 X.2.1 dX0_note_13 rfl (lv_at hl 0 rfl) ?_
  refine r_getr (b2 := 39) X w lyC_37 rfl inT0 1 rfl rfl (by decide) rfl tw_268 dX0_note_14 ?_
  refine lv_aload_n X.1 X.2.1 dX0_note_17 rfl (lv_at hl 0 rfl) ?_
  refine r_get X w lyC_37 rfl inT0 2 rfl (by decide) rfl tw_269 dX0_note_18 ?_
  refine lv_bipush (v := (40 : Int32)) X.1 X.2.1 dX0_note_21 (by decide) ?_
  refine lv_irem X.1 X.2.1 dX0_note_23 (by decide) ?_
  refine lv_iload_n X.1 X.2.1 dX0_note_24 rfl (lv_at hl 2 rfl) ?_
  obtain ⟨hi3, h⟩ := gd_some h
  refine r_iast X w lyC_39 hi3 dX0_note_25 (fun H locs w => ?_)
  obtain ⟨m4, em4, h⟩ := wk_some h
  rw [em4] at w
  refine lv_aload_n X.1 X.2.1 dX0_note_26 rfl (lv_at hl 0 rfl) ?_
  refine lv_dup X.1 X.2.1 dX0_note_27 rfl ?_
  refine r_get X w lyC_37 rfl inT0 2 rfl (by decide) rfl tw_269 dX0_note_28 ?_
  refine lv_iconst (v := (1 : Int32)) X.1 X.2.1 dX0_note_31 (by decide) ?_
  refine lv_iadd X.1 X.2.1 dX0_note_32 ?_
  refine r_put X w lyC_37 rfl inT0 tyX0 tyX0_ok nmX0 2 rfl (by decide) rfl rfl tw_269 rfl rfl dX0_note_33 (fun H locs w => ?_)
  obtain ⟨m5, em5, h⟩ := wk_some h
  rw [em5] at w
  obtain ⟨rfl, -⟩ := Prod.mk.inj (Option.some.inj h)
  exact r_vret X M w dX0_note_36
/-! WalkHouse$Changes.remembered()I (R) -/
theorem hdX0_remembered : yX0_remembered.cls = RX0 ∧ yX0_remembered.cls ≠ "java/lang/invoke/MethodHandle" ∧ yX0_remembered.cls ≠ "java/lang/invoke/VarHandle" ∧ (parseMethodDescriptor yX0_remembered.desc).map (fun d => d.parameters.length) = some 0 := by decide +kernel
def fX0_remembered (mem : Mm)  : Option Int32 :=
  some (if (40 : Int32) < (mem 37 2) then (40 : Int32) else (mem 37 2))
set_option maxRecDepth 100000 in
set_option maxHeartbeats 4000000 in
theorem kX0_remembered {cap : Nat} (l : Launch) (D : va_G) (ca : Nat → ClassId) (ad : Nat → Nat) (mem : Mm)   {r : Int32} (h : fX0_remembered mem  = some r) : CtI l yX0_remembered cX0_remembered 1 (some .int) (rmx 1 21) D ca ad (layC cap) mem [.ref (ad 37)] mem r := by
  refine CtI.of (by decide) (Nat.le_of_ble_eq_true rfl) ?_
  intro p e s m args below meth c H locs ls X M w hl
  replace X : CallFix p m c cX0_remembered 1 s args TT RX0 := X
  replace hl : lv_has ls 1 [(0, .ref (ad 37))] := hl
  unfold fX0_remembered at h
  refine lv_aload_n X.1 X.2.1 dX0_remembered_0 rfl (lv_at hl 0 rfl) ?_
  refine r_get X w lyC_37 rfl inT0 2 rfl (by decide) rfl tw_269 dX0_remembered_1 ?_
  refine lv_bipush (v := (40 : Int32)) X.1 X.2.1 dX0_remembered_4 (by decide) ?_
  refine va_mmin X.1 X.2.1 (X.2.2.1.trans hl.1.symm) X.2.2.2.1 (X.2.2.2.2 _ tw_713) (X.2.2.2.2 _ mmin_1) (X.2.2.2.2 _ mmin_2) (X.2.2.2.2 _ mmin_3) (by decide) (Nat.le_of_ble_eq_true rfl) (Nat.zero_le _) (Nat.zero_le _) dX0_remembered_6 ?_
  obtain rfl := Option.some.inj h
  exact r_iret X M w dX0_remembered_9
/-! WalkHouse$Changes.firstSince(I)I (R) -/
theorem hdX0_firstSince : yX0_firstSince.cls = RX0 ∧ yX0_firstSince.cls ≠ "java/lang/invoke/MethodHandle" ∧ yX0_firstSince.cls ≠ "java/lang/invoke/VarHandle" ∧ (parseMethodDescriptor yX0_firstSince.desc).map (fun d => d.parameters.length) = some 1 := by decide +kernel
def fX0_firstSince (mem : Mm) (a1 : Int32) : Option Int32 :=
  bd (fX0_remembered mem) (fun r1 => some (if a1 < ((mem 37 2) - r1) then ((mem 37 2) - r1) else a1))
set_option maxRecDepth 100000 in
set_option maxHeartbeats 4000000 in
theorem kX0_firstSince {cap : Nat} (l : Launch) (D : va_G) (ca : Nat → ClassId) (ad : Nat → Nat) (mem : Mm) (a1 : Int32)  {r : Int32} (h : fX0_firstSince mem a1 = some r) : CtI l yX0_firstSince cX0_firstSince 2 (some .int) (rmx 2 41) D ca ad (layC cap) mem [.ref (ad 37), .int a1] mem r := by
  refine CtI.of (by decide) (Nat.le_of_ble_eq_true rfl) ?_
  intro p e s m args below meth c H locs ls X M w hl
  replace X : CallFix p m c cX0_firstSince 2 s args TT RX0 := X
  replace hl : lv_has ls 2 [(0, .ref (ad 37)), (1, .int a1)] := hl
  unfold fX0_firstSince at h
  refine lv_iload_n X.1 X.2.1 dX0_firstSince_0 rfl (lv_at hl 1 rfl) ?_
  refine lv_aload_n X.1 X.2.1 dX0_firstSince_1 rfl (lv_at hl 0 rfl) ?_
  refine r_get X w lyC_37 rfl inT0 2 rfl (by decide) rfl tw_269 dX0_firstSince_2 ?_
  refine lv_aload_n X.1 X.2.1 dX0_firstSince_5 rfl (lv_at hl 0 rfl) ?_
  obtain ⟨r1, hr1, h⟩ := bd_some h
  refine r_cVi (As := []) (rest := [.int (mem 37 2), .int a1]) X w lyC_37 rfl (kX0_remembered (cap := cap) l D ca ad mem   hr1) (gTV tw_709 tw_710 tw_711 tw_72 tw_712) hdX0_remembered (by decide) rfl hl.1 rfl (Nat.le_of_ble_eq_true rfl) dX0_firstSince_6 ⟨Nat.zero_le _, Nat.zero_le _⟩ (fun H locs w => ?_)
  refine lv_isub X.1 X.2.1 dX0_firstSince_9 ?_
  refine va_mmax X.1 X.2.1 (X.2.2.1.trans hl.1.symm) X.2.2.2.1 (X.2.2.2.2 _ tw_714) (X.2.2.2.2 _ mmax_1) (X.2.2.2.2 _ mmax_2) (X.2.2.2.2 _ mmax_3) (by decide) (Nat.le_of_ble_eq_true rfl) (Nat.zero_le _) (Nat.zero_le _) dX0_firstSince_10 ?_
  obtain rfl := Option.some.inj h
  exact r_iret X M w dX0_firstSince_13
/-! WalkHouse$Changes.keyAt(I)I (R) -/
theorem hdX0_keyAt : yX0_keyAt.cls = RX0 ∧ yX0_keyAt.cls ≠ "java/lang/invoke/MethodHandle" ∧ yX0_keyAt.cls ≠ "java/lang/invoke/VarHandle" ∧ (parseMethodDescriptor yX0_keyAt.desc).map (fun d => d.parameters.length) = some 1 := by decide +kernel
def fX0_keyAt (mem : Mm) (a1 : Int32) : Option Int32 :=
  gd (a1 - a1 / (40 : Int32) * (40 : Int32)) 40 (some (mem 38 (a1 - a1 / (40 : Int32) * (40 : Int32)).toNatClampNeg))
set_option maxRecDepth 100000 in
set_option maxHeartbeats 4000000 in
theorem kX0_keyAt {cap : Nat} (l : Launch) (D : va_G) (ca : Nat → ClassId) (ad : Nat → Nat) (mem : Mm) (a1 : Int32)  {r : Int32} (h : fX0_keyAt mem a1 = some r) : CtI l yX0_keyAt cX0_keyAt 2 (some .int) (rmx 0 0) D ca ad (layC cap) mem [.ref (ad 37), .int a1] mem r := by
  refine CtI.of (by decide) (Nat.le_of_ble_eq_true rfl) ?_
  intro p e s m args below meth c H locs ls X M w hl
  replace X : CallFix p m c cX0_keyAt 2 s args TT RX0 := X
  replace hl : lv_has ls 2 [(0, .ref (ad 37)), (1, .int a1)] := hl
  unfold fX0_keyAt at h
  refine lv_aload_n X.1 X.2.1 dX0_keyAt_0 rfl (lv_at hl 0 rfl) ?_
  refine r_getr (b2 := 38) X w lyC_37 rfl inT0 0 rfl rfl (by decide) rfl tw_267 dX0_keyAt_1 ?_
  refine lv_iload_n X.1 X.2.1 dX0_keyAt_4 rfl (lv_at hl 1 rfl) ?_
  refine lv_bipush (v := (40 : Int32)) X.1 X.2.1 dX0_keyAt_5 (by decide) ?_
  refine lv_irem X.1 X.2.1 dX0_keyAt_7 (by decide) ?_
  obtain ⟨hi1, h⟩ := gd_some h
  refine r_iald X w lyC_38 hi1 dX0_keyAt_8 ?_
  obtain rfl := Option.some.inj h
  exact r_iret X M w dX0_keyAt_9
/-! WalkHouse$Changes.beforeAt(I)I (R) -/
theorem hdX0_beforeAt : yX0_beforeAt.cls = RX0 ∧ yX0_beforeAt.cls ≠ "java/lang/invoke/MethodHandle" ∧ yX0_beforeAt.cls ≠ "java/lang/invoke/VarHandle" ∧ (parseMethodDescriptor yX0_beforeAt.desc).map (fun d => d.parameters.length) = some 1 := by decide +kernel
def fX0_beforeAt (mem : Mm) (a1 : Int32) : Option Int32 :=
  gd (a1 - a1 / (40 : Int32) * (40 : Int32)) 40 (some (mem 39 (a1 - a1 / (40 : Int32) * (40 : Int32)).toNatClampNeg))
set_option maxRecDepth 100000 in
set_option maxHeartbeats 4000000 in
theorem kX0_beforeAt {cap : Nat} (l : Launch) (D : va_G) (ca : Nat → ClassId) (ad : Nat → Nat) (mem : Mm) (a1 : Int32)  {r : Int32} (h : fX0_beforeAt mem a1 = some r) : CtI l yX0_beforeAt cX0_beforeAt 2 (some .int) (rmx 0 0) D ca ad (layC cap) mem [.ref (ad 37), .int a1] mem r := by
  refine CtI.of (by decide) (Nat.le_of_ble_eq_true rfl) ?_
  intro p e s m args below meth c H locs ls X M w hl
  replace X : CallFix p m c cX0_beforeAt 2 s args TT RX0 := X
  replace hl : lv_has ls 2 [(0, .ref (ad 37)), (1, .int a1)] := hl
  unfold fX0_beforeAt at h
  refine lv_aload_n X.1 X.2.1 dX0_beforeAt_0 rfl (lv_at hl 0 rfl) ?_
  refine r_getr (b2 := 39) X w lyC_37 rfl inT0 1 rfl rfl (by decide) rfl tw_268 dX0_beforeAt_1 ?_
  refine lv_iload_n X.1 X.2.1 dX0_beforeAt_4 rfl (lv_at hl 1 rfl) ?_
  refine lv_bipush (v := (40 : Int32)) X.1 X.2.1 dX0_beforeAt_5 (by decide) ?_
  refine lv_irem X.1 X.2.1 dX0_beforeAt_7 (by decide) ?_
  obtain ⟨hi1, h⟩ := gd_some h
  refine r_iald X w lyC_39 hi1 dX0_beforeAt_8 ?_
  obtain rfl := Option.some.inj h
  exact r_iret X M w dX0_beforeAt_9
/-! WalkHouse$Fences.indexOf(I)I (R) -/
theorem hdX1_indexOf : yX1_indexOf.cls = RX1 ∧ yX1_indexOf.cls ≠ "java/lang/invoke/MethodHandle" ∧ yX1_indexOf.cls ≠ "java/lang/invoke/VarHandle" ∧ (parseMethodDescriptor yX1_indexOf.desc).map (fun d => d.parameters.length) = some 1 := by decide +kernel
def fX1_indexOf_b2_s (cap : Nat)  (k2 : Mm → Int32 → Int32 → Option Int32) (mem : Mm) (x1 : Int32) (x2 : Int32) : Option Int32 :=
  if (mem 40 4) ≤ x2 then some (-1 : Int32) else gd x2 cap (if (mem 42 x2.toNatClampNeg) = x1 then some x2 else k2 mem x1 (x2 + (1 : Int32)))
def fX1_indexOf_b2 (cap : Nat)  : Nat → Mm → Int32 → Int32 → Option Int32
  | 0 => fun _ _ _ => none
  | n + 1 => fX1_indexOf_b2_s cap  (fX1_indexOf_b2 cap  n)
set_option maxRecDepth 100000 in
set_option maxHeartbeats 4000000 in
theorem wX1_indexOf_b2_s {p : Program} {l : Launch} {e : Env} {s : State} {m : MethodId} {args : Array Value} {below : List Frame} {meth : Method} {c : Code} {D : va_G} {ca : Nat → ClassId} {ad : Nat → Nat} {cap : Nat} {H : Heap} {locs : List Loc} {ls : Array Slot} {mem : Mm} {x1 : Int32} {x2 : Int32}  {k2 : Mm → Int32 → Int32 → Option Int32} {r : Int32} (X : CallFix p m c cX1_indexOf 3 s args TT RX1) (M : Mt meth (some .int))  (hk2 : ∀ (x1 : Int32) (x2 : Int32) (H : Heap) (locs : List Loc) (ls : Array Slot) , Wd D ca ad (layC cap) (AA ad (layC cap).length) s.heap s mem H locs → lv_has ls 3 [(0, .ref (ad 40)), (1, .int x1), (2, .int x2)] → k2 mem x1 x2 = some r → W p l e (rmx 0 0) s m args below meth c H locs 0 0 (EndI D ca ad (layC cap) mem r below args s) (F0 m 2 ls []))  (w : Wd D ca ad (layC cap) (AA ad (layC cap).length) s.heap s mem H locs) (hl : lv_has ls 3 [(0, .ref (ad 40)), (1, .int x1), (2, .int x2)]) (h : fX1_indexOf_b2_s cap  k2 mem x1 x2 = some r) : W p l e (rmx 0 0) s m args below meth c H locs 0 0 (EndI D ca ad (layC cap) mem r below args s) (F0 m 2 ls []) := by
  unfold fX1_indexOf_b2_s at h
  refine lv_iload_n X.1 X.2.1 dX1_indexOf_2 rfl (lv_at hl 2 rfl) ?_
  refine lv_aload_n X.1 X.2.1 dX1_indexOf_3 rfl (lv_at hl 0 rfl) ?_
  refine r_get X w lyC_40 rfl inT1 4 rfl (by decide) rfl tw_290 dX1_indexOf_4 ?_
  refine lv_icmp_ge (tgt := 28) X.1 X.2.1 dX1_indexOf_7 (by decide) (fun c1 => ?_) (fun c1 => ?_)
  · rw [if_pos c1] at h
    refine lv_iconst (v := (-1 : Int32)) X.1 X.2.1 dX1_indexOf_28 (by decide) ?_
    obtain rfl := Option.some.inj h
    exact r_iret X M w dX1_indexOf_29
  · rw [if_neg c1] at h
    refine lv_aload_n X.1 X.2.1 dX1_indexOf_10 rfl (lv_at hl 0 rfl) ?_
    refine r_getr (b2 := 42) X w lyC_40 rfl inT1 2 rfl rfl (by decide) rfl tw_288 dX1_indexOf_11 ?_
    refine lv_iload_n X.1 X.2.1 dX1_indexOf_14 rfl (lv_at hl 2 rfl) ?_
    obtain ⟨hi2, h⟩ := gd_some h
    refine r_iald X w lyC_42 hi2 dX1_indexOf_15 ?_
    refine lv_iload_n X.1 X.2.1 dX1_indexOf_16 rfl (lv_at hl 1 rfl) ?_
    refine lv_icmp_ne (tgt := 22) X.1 X.2.1 dX1_indexOf_17 (by decide) (fun c3 => ?_) (fun c3 => ?_)
    · rw [if_neg c3] at h
      refine lv_iinc (v := (x2 + (1 : Int32))) (lv' := [(2, .int (x2 + (1 : Int32))), (0, .ref (ad 40)), (1, .int x1)]) X.1 X.2.1 dX1_indexOf_22 hl (k := 2) rfl rfl (by decide) rfl (fun ls hl => ?_)
      refine lv_goto (tgt := 2) X.1 X.2.1 dX1_indexOf_25 (by decide) ?_
      exact hk2 _ _ H locs ls w (lv_sub hl [1, 2, 0] rfl) h
    · rw [if_pos c3] at h
      refine lv_iload_n X.1 X.2.1 dX1_indexOf_20 rfl (lv_at hl 2 rfl) ?_
      obtain rfl := Option.some.inj h
      exact r_iret X M w dX1_indexOf_21
set_option maxRecDepth 100000 in
set_option maxHeartbeats 4000000 in
theorem wX1_indexOf_b2 {p : Program} {l : Launch} {e : Env} {s : State} {m : MethodId} {args : Array Value} {below : List Frame} {meth : Method} {c : Code} {D : va_G} {ca : Nat → ClassId} {ad : Nat → Nat} {cap : Nat} {mem : Mm}  {r : Int32} (X : CallFix p m c cX1_indexOf 3 s args TT RX1) (M : Mt meth (some .int))  : ∀ (n : Nat) (x1 : Int32) (x2 : Int32) (H : Heap) (locs : List Loc) (ls : Array Slot)  (_ : Wd D ca ad (layC cap) (AA ad (layC cap).length) s.heap s mem H locs) (_ : lv_has ls 3 [(0, .ref (ad 40)), (1, .int x1), (2, .int x2)]) (_ : fX1_indexOf_b2 cap  n mem x1 x2 = some r), W p l e (rmx 0 0) s m args below meth c H locs 0 0 (EndI D ca ad (layC cap) mem r below args s) (F0 m 2 ls []) := by
  intro n
  induction n with
  | zero => intro x1 x2 H locs ls  w hl h; exact (nofun : (none : Option Int32) = _ → _) h
  | succ n ih => intro x1 x2 H locs ls  w hl h; exact wX1_indexOf_b2_s X M  ih  w hl h
def fX1_indexOf (cap : Nat) (mem : Mm) (a1 : Int32) : Option Int32 :=
  fX1_indexOf_b2 cap 2000 mem a1 (0 : Int32)
set_option maxRecDepth 100000 in
set_option maxHeartbeats 4000000 in
theorem kX1_indexOf {cap : Nat} (l : Launch) (D : va_G) (ca : Nat → ClassId) (ad : Nat → Nat) (mem : Mm) (a1 : Int32)  {r : Int32} (h : fX1_indexOf cap mem a1 = some r) : CtI l yX1_indexOf cX1_indexOf 3 (some .int) (rmx 0 0) D ca ad (layC cap) mem [.ref (ad 40), .int a1] mem r := by
  refine CtI.of (by decide) (Nat.le_of_ble_eq_true rfl) ?_
  intro p e s m args below meth c H locs ls X M w hl
  replace X : CallFix p m c cX1_indexOf 3 s args TT RX1 := X
  replace hl : lv_has ls 3 [(0, .ref (ad 40)), (1, .int a1)] := hl
  unfold fX1_indexOf at h
  refine lv_iconst (v := (0 : Int32)) X.1 X.2.1 dX1_indexOf_0 (by decide) ?_
  refine lv_istore_n (lv' := [(2, .int (0 : Int32)), (0, .ref (ad 40)), (1, .int a1)]) X.1 X.2.1 dX1_indexOf_1 rfl hl (by decide) rfl (fun ls hl => ?_)
  exact wX1_indexOf_b2 X M _ _ _ H locs ls w (lv_sub hl [1, 2, 0] rfl) h
/-! WalkHouse$Fences.latest(II)I (R) -/
theorem hdX1_latest : yX1_latest.cls = RX1 ∧ yX1_latest.cls ≠ "java/lang/invoke/MethodHandle" ∧ yX1_latest.cls ≠ "java/lang/invoke/VarHandle" ∧ (parseMethodDescriptor yX1_latest.desc).map (fun d => d.parameters.length) = some 2 := by decide +kernel
def fX1_latest_b27 (cap : Nat)  (mem : Mm) (x1 : Int32) (s0 : Int32) : Option Int32 :=
  gd x1 6 (some (if (mem 40 1) < (if (mem 41 x1.toNatClampNeg) < s0 then s0 else (mem 41 x1.toNatClampNeg)) then (if (mem 41 x1.toNatClampNeg) < s0 then s0 else (mem 41 x1.toNatClampNeg)) else (mem 40 1)))
set_option maxRecDepth 100000 in
set_option maxHeartbeats 4000000 in
theorem wX1_latest_b27 {p : Program} {l : Launch} {e : Env} {s : State} {m : MethodId} {args : Array Value} {below : List Frame} {meth : Method} {c : Code} {D : va_G} {ca : Nat → ClassId} {ad : Nat → Nat} {cap : Nat} {H : Heap} {locs : List Loc} {ls : Array Slot} {mem : Mm} {x1 : Int32} {s0 : Int32}  {r : Int32} (X : CallFix p m c cX1_latest 5 s args TT RX1) (M : Mt meth (some .int))   (w : Wd D ca ad (layC cap) (AA ad (layC cap).length) s.heap s mem H locs) (hl : lv_has ls 5 [(0, .ref (ad 40)), (1, .int x1)]) (h : fX1_latest_b27 cap  mem x1 s0 = some r) : W p l e (rmx 1 22) s m args below meth c H locs 0 0 (EndI D ca ad (layC cap) mem r below args s) (F0 m 27 ls [.int s0]) := by
  unfold fX1_latest_b27 at h
  refine lv_istore (lv' := [(4, .int s0), (0, .ref (ad 40)), (1, .int x1)]) X.1 X.2.1 dX1_latest_27 hl (by decide) rfl (fun ls hl => ?_)
  refine lv_aload_n X.1 X.2.1 dX1_latest_29 rfl (lv_at hl 1 rfl) ?_
  refine r_get X w lyC_40 rfl inT1 1 rfl (by decide) rfl tw_286 dX1_latest_30 ?_
  refine lv_aload_n X.1 X.2.1 dX1_latest_33 rfl (lv_at hl 1 rfl) ?_
  refine r_getr (b2 := 41) X w lyC_40 rfl inT1 0 rfl rfl (by decide) rfl tw_284 dX1_latest_34 ?_
  refine lv_iload_n X.1 X.2.1 dX1_latest_37 rfl (lv_at hl 2 rfl) ?_
  obtain ⟨hi1, h⟩ := gd_some h
  refine r_iald X w lyC_41 hi1 dX1_latest_38 ?_
  refine lv_iload X.1 X.2.1 dX1_latest_39 (lv_at hl 0 rfl) ?_
  refine va_mmax X.1 X.2.1 (X.2.2.1.trans hl.1.symm) X.2.2.2.1 (X.2.2.2.2 _ tw_695) (X.2.2.2.2 _ mmax_1) (X.2.2.2.2 _ mmax_2) (X.2.2.2.2 _ mmax_3) (by decide) (Nat.le_of_ble_eq_true rfl) (Nat.zero_le _) (Nat.zero_le _) dX1_latest_41 ?_
  refine va_mmax X.1 X.2.1 (X.2.2.1.trans hl.1.symm) X.2.2.2.1 (X.2.2.2.2 _ tw_695) (X.2.2.2.2 _ mmax_1) (X.2.2.2.2 _ mmax_2) (X.2.2.2.2 _ mmax_3) (by decide) (Nat.le_of_ble_eq_true rfl) (Nat.zero_le _) (Nat.zero_le _) dX1_latest_44 ?_
  obtain rfl := Option.some.inj h
  exact r_iret X M w dX1_latest_47
def fX1_latest (cap : Nat) (mem : Mm) (a1 : Int32) (a2 : Int32) : Option Int32 :=
  bd (fX1_indexOf cap mem ((a1 * (512 : Int32)) + a2)) (fun r1 => if r1 = (-1 : Int32) then fX1_latest_b27 cap mem a1 (0 : Int32) else gd r1 cap (fX1_latest_b27 cap mem a1 (mem 43 r1.toNatClampNeg)))
set_option maxRecDepth 100000 in
set_option maxHeartbeats 4000000 in
theorem kX1_latest {cap : Nat} (l : Launch) (D : va_G) (ca : Nat → ClassId) (ad : Nat → Nat) (mem : Mm) (a1 : Int32) (a2 : Int32)  {r : Int32} (h : fX1_latest cap mem a1 a2 = some r) : CtI l yX1_latest cX1_latest 5 (some .int) (rmx 1 22) D ca ad (layC cap) mem [.ref (ad 40), .int a1, .int a2] mem r := by
  refine CtI.of (by decide) (Nat.le_of_ble_eq_true rfl) ?_
  intro p e s m args below meth c H locs ls X M w hl
  replace X : CallFix p m c cX1_latest 5 s args TT RX1 := X
  replace hl : lv_has ls 5 [(0, .ref (ad 40)), (1, .int a1), (2, .int a2)] := hl
  unfold fX1_latest at h
  refine lv_aload_n X.1 X.2.1 dX1_latest_0 rfl (lv_at hl 0 rfl) ?_
  refine lv_iload_n X.1 X.2.1 dX1_latest_1 rfl (lv_at hl 1 rfl) ?_
  refine lv_sipush (v := (512 : Int32)) X.1 X.2.1 dX1_latest_2 (by decide) ?_
  refine lv_imul X.1 X.2.1 dX1_latest_5 ?_
  refine lv_iload_n X.1 X.2.1 dX1_latest_6 rfl (lv_at hl 2 rfl) ?_
  refine lv_iadd X.1 X.2.1 dX1_latest_7 ?_
  obtain ⟨r1, hr1, h⟩ := bd_some h
  refine r_cVi (As := [.int ((a1 * (512 : Int32)) + a2)]) (rest := []) X w lyC_40 rfl (kX1_indexOf (cap := cap) l D ca ad mem ((a1 * (512 : Int32)) + a2)  hr1) (gTV tw_611 tw_612 tw_613 tw_73 tw_614) hdX1_indexOf (by decide) rfl hl.1 rfl (Nat.le_of_ble_eq_true rfl) dX1_latest_8 ⟨Nat.zero_le _, Nat.zero_le _⟩ (fun H locs w => ?_)
  refine lv_istore_n (lv' := [(3, .int r1), (0, .ref (ad 40)), (1, .int a1), (2, .int a2)]) X.1 X.2.1 dX1_latest_11 rfl hl (by decide) rfl (fun ls hl => ?_)
  refine lv_iload_n X.1 X.2.1 dX1_latest_12 rfl (lv_at hl 0 rfl) ?_
  refine lv_iconst (v := (-1 : Int32)) X.1 X.2.1 dX1_latest_13 (by decide) ?_
  refine lv_icmp_ne (tgt := 21) X.1 X.2.1 dX1_latest_14 (by decide) (fun c2 => ?_) (fun c2 => ?_)
  · rw [if_neg c2] at h
    refine lv_aload_n X.1 X.2.1 dX1_latest_21 rfl (lv_at hl 1 rfl) ?_
    refine r_getr (b2 := 43) X w lyC_40 rfl inT1 3 rfl rfl (by decide) rfl tw_289 dX1_latest_22 ?_
    refine lv_iload_n X.1 X.2.1 dX1_latest_25 rfl (lv_at hl 0 rfl) ?_
    obtain ⟨hi3, h⟩ := gd_some h
    refine r_iald X w lyC_43 hi3 dX1_latest_26 ?_
    exact wX1_latest_b27 X M w (lv_sub hl [1, 2] rfl) h
  · rw [if_pos c2] at h
    refine lv_iconst (v := (0 : Int32)) X.1 X.2.1 dX1_latest_17 (by decide) ?_
    refine lv_goto (tgt := 27) X.1 X.2.1 dX1_latest_18 (by decide) ?_
    exact wX1_latest_b27 X M w (lv_sub hl [1, 2] rfl) h
/-! WalkHouse$FrameSet.clear()V (W) -/
theorem hdX2_clear : yX2_clear.cls = RX2 ∧ yX2_clear.cls ≠ "java/lang/invoke/MethodHandle" ∧ yX2_clear.cls ≠ "java/lang/invoke/VarHandle" ∧ (parseMethodDescriptor yX2_clear.desc).map (fun d => d.parameters.length) = some 0 := by decide +kernel
def fX2_clear (mem : Mm)  : Option (Mm × Unit) :=
  bw (fJ7_fill_53178 mem 34 45 (0 : Int32)) (fun m2 r1 => some (m2, ()))
set_option maxRecDepth 100000 in
set_option maxHeartbeats 4000000 in
theorem kX2_clear {cap : Nat} (l : Launch) (D : va_G) (ca : Nat → ClassId) (ad : Nat → Nat) (mem : Mm)   {mem' : Mm} {r : Unit} (h : fX2_clear mem  = some (mem', r)) : CtV l yX2_clear cX2_clear 1 none (rmx 1 23) D ca ad (layC cap) mem [.ref (ad 44)] mem' := by
  refine CtV.of (by decide) (Nat.le_of_ble_eq_true rfl) ?_
  intro p e s m args below meth c H locs ls X M w hl
  replace X : CallFix p m c cX2_clear 1 s args TT RX2 := X
  replace hl : lv_has ls 1 [(0, .ref (ad 44))] := hl
  unfold fX2_clear at h
  refine lv_aload_n X.1 X.2.1 dX2_clear_0 rfl (lv_at hl 0 rfl) ?_
  refine r_getr (b2 := 45) X w lyC_44 rfl inT2 0 rfl rfl (by decide) rfl tw_308 dX2_clear_1 ?_
  refine lv_iconst (v := (0 : Int32)) X.1 X.2.1 dX2_clear_4 (by decide) ?_
  obtain ⟨m2, r1, hr1, h⟩ := bw_some h
  refine r_cSv (As := [.ref (ad 45), .int (0 : Int32)]) (rest := []) X w (kJ7_fill_53178 (lay := layC cap) l D ca ad mem 34 45 (0 : Int32) lyC_45 hr1) (gTS tw_690 tw_98 tw_67 tw_99) hdJ7_fill_53178 (by decide) rfl hl.1 rfl (Nat.le_of_ble_eq_true rfl) dX2_clear_5 ⟨Nat.zero_le _, Nat.zero_le _⟩ (fun H locs w => ?_)
  obtain ⟨rfl, -⟩ := Prod.mk.inj (Option.some.inj h)
  exact r_vret X M w dX2_clear_8
/-! WalkHouse$FrameSet.add(I)V (W) -/
theorem hdX2_add : yX2_add.cls = RX2 ∧ yX2_add.cls ≠ "java/lang/invoke/MethodHandle" ∧ yX2_add.cls ≠ "java/lang/invoke/VarHandle" ∧ (parseMethodDescriptor yX2_add.desc).map (fun d => d.parameters.length) = some 1 := by decide +kernel
def fX2_add (mem : Mm) (a1 : Int32) : Option (Mm × Unit) :=
  if a1 < 0 then some (mem, ()) else if (34 : Int32) ≤ (a1 / (32 : Int32)) then some (mem, ()) else gd (a1 / (32 : Int32)) 34 (gd (a1 / (32 : Int32)) 34 (wk mem 45 (a1 / (32 : Int32)).toNatClampNeg ((mem 45 (a1 / (32 : Int32)).toNatClampNeg) ||| ((1 : Int32) <<< ((a1 - a1 / (32 : Int32) * (32 : Int32)) &&& 31))) (fun m5 => some (m5, ()))))
set_option maxRecDepth 100000 in
set_option maxHeartbeats 4000000 in
theorem kX2_add {cap : Nat} (l : Launch) (D : va_G) (ca : Nat → ClassId) (ad : Nat → Nat) (mem : Mm) (a1 : Int32)  {mem' : Mm} {r : Unit} (h : fX2_add mem a1 = some (mem', r)) : CtV l yX2_add cX2_add 2 none (rmx 0 0) D ca ad (layC cap) mem [.ref (ad 44), .int a1] mem' := by
  refine CtV.of (by decide) (Nat.le_of_ble_eq_true rfl) ?_
  intro p e s m args below meth c H locs ls X M w hl
  replace X : CallFix p m c cX2_add 2 s args TT RX2 := X
  replace hl : lv_has ls 2 [(0, .ref (ad 44)), (1, .int a1)] := hl
  unfold fX2_add at h
  refine lv_iload_n X.1 X.2.1 dX2_add_0 rfl (lv_at hl 1 rfl) ?_
  refine lv_if_lt (tgt := 34) X.1 X.2.1 dX2_add_1 (by decide) (fun c1 => ?_) (fun c1 => ?_)
  · rw [if_pos c1] at h
    obtain ⟨rfl, -⟩ := Prod.mk.inj (Option.some.inj h)
    exact r_vret X M w dX2_add_34
  · rw [if_neg c1] at h
    refine lv_iload_n X.1 X.2.1 dX2_add_4 rfl (lv_at hl 1 rfl) ?_
    refine lv_bipush (v := (32 : Int32)) X.1 X.2.1 dX2_add_5 (by decide) ?_
    refine lv_idiv X.1 X.2.1 dX2_add_7 (by decide) ?_
    refine lv_aload_n X.1 X.2.1 dX2_add_8 rfl (lv_at hl 0 rfl) ?_
    refine r_getr (b2 := 45) X w lyC_44 rfl inT2 0 rfl rfl (by decide) rfl tw_308 dX2_add_9 ?_
    refine r_alen (v := (34 : Int32)) X w lyC_45 (by decide) dX2_add_12 ?_
    refine lv_icmp_ge (tgt := 34) X.1 X.2.1 dX2_add_13 (by decide) (fun c2 => ?_) (fun c2 => ?_)
    · rw [if_pos c2] at h
      obtain ⟨rfl, -⟩ := Prod.mk.inj (Option.some.inj h)
      exact r_vret X M w dX2_add_34
    · rw [if_neg c2] at h
      refine lv_aload_n X.1 X.2.1 dX2_add_16 rfl (lv_at hl 0 rfl) ?_
      refine r_getr (b2 := 45) X w lyC_44 rfl inT2 0 rfl rfl (by decide) rfl tw_308 dX2_add_17 ?_
      refine lv_iload_n X.1 X.2.1 dX2_add_20 rfl (lv_at hl 1 rfl) ?_
      refine lv_bipush (v := (32 : Int32)) X.1 X.2.1 dX2_add_21 (by decide) ?_
      refine lv_idiv X.1 X.2.1 dX2_add_23 (by decide) ?_
      refine lv_dup2_11 X.1 X.2.1 dX2_add_24 rfl rfl ?_
      obtain ⟨hi3, h⟩ := gd_some h
      refine r_iald X w lyC_45 hi3 dX2_add_25 ?_
      refine lv_iconst (v := (1 : Int32)) X.1 X.2.1 dX2_add_26 (by decide) ?_
      refine lv_iload_n X.1 X.2.1 dX2_add_27 rfl (lv_at hl 1 rfl) ?_
      refine lv_bipush (v := (32 : Int32)) X.1 X.2.1 dX2_add_28 (by decide) ?_
      refine lv_irem X.1 X.2.1 dX2_add_30 (by decide) ?_
      refine lv_ishl X.1 X.2.1 dX2_add_31 ?_
      refine lv_ior X.1 X.2.1 dX2_add_32 ?_
      obtain ⟨hi4, h⟩ := gd_some h
      refine r_iast X w lyC_45 hi4 dX2_add_33 (fun H locs w => ?_)
      obtain ⟨m5, em5, h⟩ := wk_some h
      rw [em5] at w
      obtain ⟨rfl, -⟩ := Prod.mk.inj (Option.some.inj h)
      exact r_vret X M w dX2_add_34
/-! WalkHouse$FrameSet.has(I)Z (R) -/
theorem hdX2_has : yX2_has.cls = RX2 ∧ yX2_has.cls ≠ "java/lang/invoke/MethodHandle" ∧ yX2_has.cls ≠ "java/lang/invoke/VarHandle" ∧ (parseMethodDescriptor yX2_has.desc).map (fun d => d.parameters.length) = some 1 := by decide +kernel
def fX2_has (mem : Mm) (a1 : Int32) : Option Int32 :=
  if a1 < 0 then some (0 : Int32) else if (34 : Int32) ≤ (a1 / (32 : Int32)) then some (0 : Int32) else gd (a1 / (32 : Int32)) 34 (if ((mem 45 (a1 / (32 : Int32)).toNatClampNeg) &&& ((1 : Int32) <<< ((a1 - a1 / (32 : Int32) * (32 : Int32)) &&& 31))) = 0 then some (0 : Int32) else some (1 : Int32))
set_option maxRecDepth 100000 in
set_option maxHeartbeats 4000000 in
theorem kX2_has {cap : Nat} (l : Launch) (D : va_G) (ca : Nat → ClassId) (ad : Nat → Nat) (mem : Mm) (a1 : Int32)  {r : Int32} (h : fX2_has mem a1 = some r) : CtI l yX2_has cX2_has 2 (some .boolean) (rmx 0 0) D ca ad (layC cap) mem [.ref (ad 44), .int a1] mem r := by
  refine CtI.of (by decide) (Nat.le_of_ble_eq_true rfl) ?_
  intro p e s m args below meth c H locs ls X M w hl
  replace X : CallFix p m c cX2_has 2 s args TT RX2 := X
  replace hl : lv_has ls 2 [(0, .ref (ad 44)), (1, .int a1)] := hl
  unfold fX2_has at h
  refine lv_iload_n X.1 X.2.1 dX2_has_0 rfl (lv_at hl 1 rfl) ?_
  refine lv_if_lt (tgt := 39) X.1 X.2.1 dX2_has_1 (by decide) (fun c1 => ?_) (fun c1 => ?_)
  · rw [if_pos c1] at h
    refine lv_iconst (v := (0 : Int32)) X.1 X.2.1 dX2_has_39 (by decide) ?_
    obtain rfl := Option.some.inj h
    exact r_zret X M w (by decide) dX2_has_40
  · rw [if_neg c1] at h
    refine lv_iload_n X.1 X.2.1 dX2_has_4 rfl (lv_at hl 1 rfl) ?_
    refine lv_bipush (v := (32 : Int32)) X.1 X.2.1 dX2_has_5 (by decide) ?_
    refine lv_idiv X.1 X.2.1 dX2_has_7 (by decide) ?_
    refine lv_aload_n X.1 X.2.1 dX2_has_8 rfl (lv_at hl 0 rfl) ?_
    refine r_getr (b2 := 45) X w lyC_44 rfl inT2 0 rfl rfl (by decide) rfl tw_308 dX2_has_9 ?_
    refine r_alen (v := (34 : Int32)) X w lyC_45 (by decide) dX2_has_12 ?_
    refine lv_icmp_ge (tgt := 39) X.1 X.2.1 dX2_has_13 (by decide) (fun c2 => ?_) (fun c2 => ?_)
    · rw [if_pos c2] at h
      refine lv_iconst (v := (0 : Int32)) X.1 X.2.1 dX2_has_39 (by decide) ?_
      obtain rfl := Option.some.inj h
      exact r_zret X M w (by decide) dX2_has_40
    · rw [if_neg c2] at h
      refine lv_aload_n X.1 X.2.1 dX2_has_16 rfl (lv_at hl 0 rfl) ?_
      refine r_getr (b2 := 45) X w lyC_44 rfl inT2 0 rfl rfl (by decide) rfl tw_308 dX2_has_17 ?_
      refine lv_iload_n X.1 X.2.1 dX2_has_20 rfl (lv_at hl 1 rfl) ?_
      refine lv_bipush (v := (32 : Int32)) X.1 X.2.1 dX2_has_21 (by decide) ?_
      refine lv_idiv X.1 X.2.1 dX2_has_23 (by decide) ?_
      obtain ⟨hi3, h⟩ := gd_some h
      refine r_iald X w lyC_45 hi3 dX2_has_24 ?_
      refine lv_iconst (v := (1 : Int32)) X.1 X.2.1 dX2_has_25 (by decide) ?_
      refine lv_iload_n X.1 X.2.1 dX2_has_26 rfl (lv_at hl 1 rfl) ?_
      refine lv_bipush (v := (32 : Int32)) X.1 X.2.1 dX2_has_27 (by decide) ?_
      refine lv_irem X.1 X.2.1 dX2_has_29 (by decide) ?_
      refine lv_ishl X.1 X.2.1 dX2_has_30 ?_
      refine lv_iand X.1 X.2.1 dX2_has_31 ?_
      refine lv_if_eq (tgt := 39) X.1 X.2.1 dX2_has_32 (by decide) (fun c4 => ?_) (fun c4 => ?_)
      · rw [if_pos c4] at h
        refine lv_iconst (v := (0 : Int32)) X.1 X.2.1 dX2_has_39 (by decide) ?_
        obtain rfl := Option.some.inj h
        exact r_zret X M w (by decide) dX2_has_40
      · rw [if_neg c4] at h
        refine lv_iconst (v := (1 : Int32)) X.1 X.2.1 dX2_has_35 (by decide) ?_
        refine lv_goto (tgt := 40) X.1 X.2.1 dX2_has_36 (by decide) ?_
        obtain rfl := Option.some.inj h
        exact r_zret X M w (by decide) dX2_has_40
/-! java/lang/Integer.bitCount(I)I (R) -/
theorem hdJ6_bitCount_0f7a4 : yJ6_bitCount_0f7a4.cls ≠ "java/lang/invoke/MethodHandle" ∧ yJ6_bitCount_0f7a4.cls ≠ "java/lang/invoke/VarHandle" ∧ (parseMethodDescriptor yJ6_bitCount_0f7a4.desc).map (fun d => d.parameters.length) = some 1 := by decide +kernel
def fJ6_bitCount_0f7a4 (a0 : Int32) : Option Int32 :=
  lk (a0 - ((ush a0 (1 : Int32)) &&& (1431655765 : Int32))) (fun x_1 => lk ((x_1 &&& (858993459 : Int32)) + ((ush x_1 (2 : Int32)) &&& (858993459 : Int32))) (fun x_2 => lk ((x_2 + (ush x_2 (4 : Int32))) &&& (252645135 : Int32)) (fun x_3 => lk (x_3 + (ush x_3 (8 : Int32))) (fun x_4 => lk (x_4 + (ush x_4 (16 : Int32))) (fun x_5 => some (x_5 &&& (63 : Int32)))))))
set_option maxRecDepth 100000 in
set_option maxHeartbeats 4000000 in
theorem kJ6_bitCount_0f7a4 {cap : Nat} (l : Launch) (D : va_G) (ca : Nat → ClassId) (ad : Nat → Nat) (mem : Mm) (a0 : Int32)  {r : Int32} (h : fJ6_bitCount_0f7a4 a0 = some r) : CtI l yJ6_bitCount_0f7a4 cJ6_bitCount_0f7a4 1 (some .int) (rmx 0 0) D ca ad (layC cap) mem [.int a0] mem r := by
  refine CtI.of (by decide) (Nat.le_of_ble_eq_true rfl) ?_
  intro p e s m args below meth c H locs ls X M w hl
  replace X : CallFix p m c cJ6_bitCount_0f7a4 1 s args TT RJ6 := X
  replace hl : lv_has ls 1 [(0, .int a0)] := hl
  unfold fJ6_bitCount_0f7a4 at h
  refine lv_iload_n X.1 X.2.1 dJ6_bitCount_0f7a4_0 rfl (lv_at hl 0 rfl) ?_
  refine lv_iload_n X.1 X.2.1 dJ6_bitCount_0f7a4_1 rfl (lv_at hl 0 rfl) ?_
  refine lv_iconst (v := (1 : Int32)) X.1 X.2.1 dJ6_bitCount_0f7a4_2 (by decide) ?_
  refine lv_iushr (v := (ush a0 (1 : Int32))) X.1 X.2.1 dJ6_bitCount_0f7a4_3 rfl ?_
  refine lv_ldcw (v := (1431655765 : Int32)) X.1 X.2.1 X.2.2.2.1 (X.2.2.2.2 _ tw_754) dJ6_bitCount_0f7a4_4 ?_
  refine lv_iand X.1 X.2.1 dJ6_bitCount_0f7a4_7 ?_
  refine lv_isub X.1 X.2.1 dJ6_bitCount_0f7a4_8 ?_
  obtain ⟨x_1, ex_1, h⟩ := lk_some h
  refine lv_name ex_1 ?_
  refine lv_istore_n (lv' := [(0, .int x_1)]) X.1 X.2.1 dJ6_bitCount_0f7a4_9 rfl hl (by decide) rfl (fun ls hl => ?_)
  refine lv_iload_n X.1 X.2.1 dJ6_bitCount_0f7a4_10 rfl (lv_at hl 0 rfl) ?_
  refine lv_ldcw (v := (858993459 : Int32)) X.1 X.2.1 X.2.2.2.1 (X.2.2.2.2 _ tw_755) dJ6_bitCount_0f7a4_11 ?_
  refine lv_iand X.1 X.2.1 dJ6_bitCount_0f7a4_14 ?_
  refine lv_iload_n X.1 X.2.1 dJ6_bitCount_0f7a4_15 rfl (lv_at hl 0 rfl) ?_
  refine lv_iconst (v := (2 : Int32)) X.1 X.2.1 dJ6_bitCount_0f7a4_16 (by decide) ?_
  refine lv_iushr (v := (ush x_1 (2 : Int32))) X.1 X.2.1 dJ6_bitCount_0f7a4_17 rfl ?_
  refine lv_ldcw (v := (858993459 : Int32)) X.1 X.2.1 X.2.2.2.1 (X.2.2.2.2 _ tw_755) dJ6_bitCount_0f7a4_18 ?_
  refine lv_iand X.1 X.2.1 dJ6_bitCount_0f7a4_21 ?_
  refine lv_iadd X.1 X.2.1 dJ6_bitCount_0f7a4_22 ?_
  obtain ⟨x_2, ex_2, h⟩ := lk_some h
  refine lv_name ex_2 ?_
  refine lv_istore_n (lv' := [(0, .int x_2)]) X.1 X.2.1 dJ6_bitCount_0f7a4_23 rfl hl (by decide) rfl (fun ls hl => ?_)
  refine lv_iload_n X.1 X.2.1 dJ6_bitCount_0f7a4_24 rfl (lv_at hl 0 rfl) ?_
  refine lv_iload_n X.1 X.2.1 dJ6_bitCount_0f7a4_25 rfl (lv_at hl 0 rfl) ?_
  refine lv_iconst (v := (4 : Int32)) X.1 X.2.1 dJ6_bitCount_0f7a4_26 (by decide) ?_
  refine lv_iushr (v := (ush x_2 (4 : Int32))) X.1 X.2.1 dJ6_bitCount_0f7a4_27 rfl ?_
  refine lv_iadd X.1 X.2.1 dJ6_bitCount_0f7a4_28 ?_
  refine lv_ldcw (v := (252645135 : Int32)) X.1 X.2.1 X.2.2.2.1 (X.2.2.2.2 _ tw_756) dJ6_bitCount_0f7a4_29 ?_
  refine lv_iand X.1 X.2.1 dJ6_bitCount_0f7a4_32 ?_
  obtain ⟨x_3, ex_3, h⟩ := lk_some h
  refine lv_name ex_3 ?_
  refine lv_istore_n (lv' := [(0, .int x_3)]) X.1 X.2.1 dJ6_bitCount_0f7a4_33 rfl hl (by decide) rfl (fun ls hl => ?_)
  refine lv_iload_n X.1 X.2.1 dJ6_bitCount_0f7a4_34 rfl (lv_at hl 0 rfl) ?_
  refine lv_iload_n X.1 X.2.1 dJ6_bitCount_0f7a4_35 rfl (lv_at hl 0 rfl) ?_
  refine lv_bipush (v := (8 : Int32)) X.1 X.2.1 dJ6_bitCount_0f7a4_36 (by decide) ?_
  refine lv_iushr (v := (ush x_3 (8 : Int32))) X.1 X.2.1 dJ6_bitCount_0f7a4_38 rfl ?_
  refine lv_iadd X.1 X.2.1 dJ6_bitCount_0f7a4_39 ?_
  obtain ⟨x_4, ex_4, h⟩ := lk_some h
  refine lv_name ex_4 ?_
  refine lv_istore_n (lv' := [(0, .int x_4)]) X.1 X.2.1 dJ6_bitCount_0f7a4_40 rfl hl (by decide) rfl (fun ls hl => ?_)
  refine lv_iload_n X.1 X.2.1 dJ6_bitCount_0f7a4_41 rfl (lv_at hl 0 rfl) ?_
  refine lv_iload_n X.1 X.2.1 dJ6_bitCount_0f7a4_42 rfl (lv_at hl 0 rfl) ?_
  refine lv_bipush (v := (16 : Int32)) X.1 X.2.1 dJ6_bitCount_0f7a4_43 (by decide) ?_
  refine lv_iushr (v := (ush x_4 (16 : Int32))) X.1 X.2.1 dJ6_bitCount_0f7a4_45 rfl ?_
  refine lv_iadd X.1 X.2.1 dJ6_bitCount_0f7a4_46 ?_
  obtain ⟨x_5, ex_5, h⟩ := lk_some h
  refine lv_name ex_5 ?_
  refine lv_istore_n (lv' := [(0, .int x_5)]) X.1 X.2.1 dJ6_bitCount_0f7a4_47 rfl hl (by decide) rfl (fun ls hl => ?_)
  refine lv_iload_n X.1 X.2.1 dJ6_bitCount_0f7a4_48 rfl (lv_at hl 0 rfl) ?_
  refine lv_bipush (v := (63 : Int32)) X.1 X.2.1 dJ6_bitCount_0f7a4_49 (by decide) ?_
  refine lv_iand X.1 X.2.1 dJ6_bitCount_0f7a4_51 ?_
  obtain rfl := Option.some.inj h
  exact r_iret X M w dJ6_bitCount_0f7a4_52
/-! WalkHouse$FrameSet.size()I (R) -/
theorem hdX2_size : yX2_size.cls = RX2 ∧ yX2_size.cls ≠ "java/lang/invoke/MethodHandle" ∧ yX2_size.cls ≠ "java/lang/invoke/VarHandle" ∧ (parseMethodDescriptor yX2_size.desc).map (fun d => d.parameters.length) = some 0 := by decide +kernel
def fX2_size_b4_s  (k4 : Mm → Int32 → Int32 → Option Int32) (mem : Mm) (x1 : Int32) (x2 : Int32) : Option Int32 :=
  if (34 : Int32) ≤ x2 then some x1 else gd x2 34 (bd (fJ6_bitCount_0f7a4 (mem 45 x2.toNatClampNeg)) (fun r3 => lk (x1 + r3) (fun x_4 => k4 mem x_4 (x2 + (1 : Int32)))))
def fX2_size_b4  : Nat → Mm → Int32 → Int32 → Option Int32
  | 0 => fun _ _ _ => none
  | n + 1 => fX2_size_b4_s  (fX2_size_b4  n)
set_option maxRecDepth 100000 in
set_option maxHeartbeats 4000000 in
theorem wX2_size_b4_s {p : Program} {l : Launch} {e : Env} {s : State} {m : MethodId} {args : Array Value} {below : List Frame} {meth : Method} {c : Code} {D : va_G} {ca : Nat → ClassId} {ad : Nat → Nat} {cap : Nat} {H : Heap} {locs : List Loc} {ls : Array Slot} {mem : Mm} {x1 : Int32} {x2 : Int32}  {k4 : Mm → Int32 → Int32 → Option Int32} {r : Int32} (X : CallFix p m c cX2_size 3 s args TT RX2) (M : Mt meth (some .int))  (hk4 : ∀ (x1 : Int32) (x2 : Int32) (H : Heap) (locs : List Loc) (ls : Array Slot) , Wd D ca ad (layC cap) (AA ad (layC cap).length) s.heap s mem H locs → lv_has ls 3 [(0, .ref (ad 44)), (1, .int x1), (2, .int x2)] → k4 mem x1 x2 = some r → W p l e (rmx 1 20) s m args below meth c H locs 0 0 (EndI D ca ad (layC cap) mem r below args s) (F0 m 4 ls []))  (w : Wd D ca ad (layC cap) (AA ad (layC cap).length) s.heap s mem H locs) (hl : lv_has ls 3 [(0, .ref (ad 44)), (1, .int x1), (2, .int x2)]) (h : fX2_size_b4_s  k4 mem x1 x2 = some r) : W p l e (rmx 1 20) s m args below meth c H locs 0 0 (EndI D ca ad (layC cap) mem r below args s) (F0 m 4 ls []) := by
  unfold fX2_size_b4_s at h
  refine lv_iload_n X.1 X.2.1 dX2_size_4 rfl (lv_at hl 2 rfl) ?_
  refine lv_aload_n X.1 X.2.1 dX2_size_5 rfl (lv_at hl 0 rfl) ?_
  refine r_getr (b2 := 45) X w lyC_44 rfl inT2 0 rfl rfl (by decide) rfl tw_308 dX2_size_6 ?_
  refine r_alen (v := (34 : Int32)) X w lyC_45 (by decide) dX2_size_9 ?_
  refine lv_icmp_ge (tgt := 31) X.1 X.2.1 dX2_size_10 (by decide) (fun c1 => ?_) (fun c1 => ?_)
  · rw [if_pos c1] at h
    refine lv_iload_n X.1 X.2.1 dX2_size_31 rfl (lv_at hl 1 rfl) ?_
    obtain rfl := Option.some.inj h
    exact r_iret X M w dX2_size_32
  · rw [if_neg c1] at h
    refine lv_iload_n X.1 X.2.1 dX2_size_13 rfl (lv_at hl 1 rfl) ?_
    refine lv_aload_n X.1 X.2.1 dX2_size_14 rfl (lv_at hl 0 rfl) ?_
    refine r_getr (b2 := 45) X w lyC_44 rfl inT2 0 rfl rfl (by decide) rfl tw_308 dX2_size_15 ?_
    refine lv_iload_n X.1 X.2.1 dX2_size_18 rfl (lv_at hl 2 rfl) ?_
    obtain ⟨hi2, h⟩ := gd_some h
    refine r_iald X w lyC_45 hi2 dX2_size_19 ?_
    obtain ⟨r3, hr3, h⟩ := bd_some h
    refine r_cSi (As := [.int (mem 45 x2.toNatClampNeg)]) (rest := [.int x1]) X w (kJ6_bitCount_0f7a4 (cap := cap) l D ca ad mem (mem 45 x2.toNatClampNeg)  hr3) (gTS tw_751 tw_752 tw_82 tw_753) hdJ6_bitCount_0f7a4 (by decide) rfl hl.1 rfl (Nat.le_of_ble_eq_true rfl) dX2_size_20 ⟨Nat.zero_le _, Nat.zero_le _⟩ (fun H locs w => ?_)
    refine lv_iadd X.1 X.2.1 dX2_size_23 ?_
    obtain ⟨x_4, ex_4, h⟩ := lk_some h
    refine lv_name ex_4 ?_
    refine lv_istore_n (lv' := [(1, .int x_4), (0, .ref (ad 44)), (2, .int x2)]) X.1 X.2.1 dX2_size_24 rfl hl (by decide) rfl (fun ls hl => ?_)
    refine lv_iinc (v := (x2 + (1 : Int32))) (lv' := [(2, .int (x2 + (1 : Int32))), (1, .int x_4), (0, .ref (ad 44))]) X.1 X.2.1 dX2_size_25 hl (k := 2) rfl rfl (by decide) rfl (fun ls hl => ?_)
    refine lv_goto (tgt := 4) X.1 X.2.1 dX2_size_28 (by decide) ?_
    exact hk4 _ _ H locs ls w (lv_sub hl [2, 1, 0] rfl) h
set_option maxRecDepth 100000 in
set_option maxHeartbeats 4000000 in
theorem wX2_size_b4 {p : Program} {l : Launch} {e : Env} {s : State} {m : MethodId} {args : Array Value} {below : List Frame} {meth : Method} {c : Code} {D : va_G} {ca : Nat → ClassId} {ad : Nat → Nat} {cap : Nat} {mem : Mm}  {r : Int32} (X : CallFix p m c cX2_size 3 s args TT RX2) (M : Mt meth (some .int))  : ∀ (n : Nat) (x1 : Int32) (x2 : Int32) (H : Heap) (locs : List Loc) (ls : Array Slot)  (_ : Wd D ca ad (layC cap) (AA ad (layC cap).length) s.heap s mem H locs) (_ : lv_has ls 3 [(0, .ref (ad 44)), (1, .int x1), (2, .int x2)]) (_ : fX2_size_b4  n mem x1 x2 = some r), W p l e (rmx 1 20) s m args below meth c H locs 0 0 (EndI D ca ad (layC cap) mem r below args s) (F0 m 4 ls []) := by
  intro n
  induction n with
  | zero => intro x1 x2 H locs ls  w hl h; exact (nofun : (none : Option Int32) = _ → _) h
  | succ n ih => intro x1 x2 H locs ls  w hl h; exact wX2_size_b4_s X M  ih  w hl h
def fX2_size (mem : Mm)  : Option Int32 :=
  fX2_size_b4 2000 mem (0 : Int32) (0 : Int32)
set_option maxRecDepth 100000 in
set_option maxHeartbeats 4000000 in
theorem kX2_size {cap : Nat} (l : Launch) (D : va_G) (ca : Nat → ClassId) (ad : Nat → Nat) (mem : Mm)   {r : Int32} (h : fX2_size mem  = some r) : CtI l yX2_size cX2_size 3 (some .int) (rmx 1 20) D ca ad (layC cap) mem [.ref (ad 44)] mem r := by
  refine CtI.of (by decide) (Nat.le_of_ble_eq_true rfl) ?_
  intro p e s m args below meth c H locs ls X M w hl
  replace X : CallFix p m c cX2_size 3 s args TT RX2 := X
  replace hl : lv_has ls 3 [(0, .ref (ad 44))] := hl
  unfold fX2_size at h
  refine lv_iconst (v := (0 : Int32)) X.1 X.2.1 dX2_size_0 (by decide) ?_
  refine lv_istore_n (lv' := [(1, .int (0 : Int32)), (0, .ref (ad 44))]) X.1 X.2.1 dX2_size_1 rfl hl (by decide) rfl (fun ls hl => ?_)
  refine lv_iconst (v := (0 : Int32)) X.1 X.2.1 dX2_size_2 (by decide) ?_
  refine lv_istore_n (lv' := [(2, .int (0 : Int32)), (1, .int (0 : Int32)), (0, .ref (ad 44))]) X.1 X.2.1 dX2_size_3 rfl hl (by decide) rfl (fun ls hl => ?_)
  exact wX2_size_b4 X M _ _ _ H locs ls w (lv_sub hl [2, 1, 0] rfl) h
/-! WalkHouse.widthOf(I)I (T) -/
theorem hdX8_widthOf : yX8_widthOf.cls ≠ "java/lang/invoke/MethodHandle" ∧ yX8_widthOf.cls ≠ "java/lang/invoke/VarHandle" ∧ (parseMethodDescriptor yX8_widthOf.desc).map (fun d => d.parameters.length) = some 1 := by decide +kernel
def fX8_widthOf (a0 : Int32) : Int32 :=
  ((1 : Int32) <<< (((3 : Int32) * a0) &&& 31))
set_option maxRecDepth 100000 in
set_option maxHeartbeats 4000000 in
theorem kX8_widthOf {cap : Nat} (l : Launch) (D : va_G) (ca : Nat → ClassId) (ad : Nat → Nat) (mem : Mm) (a0 : Int32)  {r : Int32} (h : fX8_widthOf a0 = r) : CtI l yX8_widthOf cX8_widthOf 1 (some .int) (rmx 0 0) D ca ad (layC cap) mem [.int a0] mem r := by
  refine CtI.of (by decide) (Nat.le_of_ble_eq_true rfl) ?_
  intro p e s m args below meth c H locs ls X M w hl
  replace X : CallFix p m c cX8_widthOf 1 s args TT RX8 := X
  replace hl : lv_has ls 1 [(0, .int a0)] := hl
  unfold fX8_widthOf at h
  refine lv_iconst (v := (1 : Int32)) X.1 X.2.1 dX8_widthOf_0 (by decide) ?_
  refine lv_iconst (v := (3 : Int32)) X.1 X.2.1 dX8_widthOf_1 (by decide) ?_
  refine lv_iload_n X.1 X.2.1 dX8_widthOf_2 rfl (lv_at hl 0 rfl) ?_
  refine lv_imul X.1 X.2.1 dX8_widthOf_3 ?_
  refine lv_ishl X.1 X.2.1 dX8_widthOf_4 ?_
  subst h
  exact r_iret X M w dX8_widthOf_5
